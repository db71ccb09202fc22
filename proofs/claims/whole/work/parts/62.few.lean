section
/-! few. -/
def nxf (s : Int64) (c : Nat → Int64) (j : Nat) : Int64 := c j * (10 - s) / 10 + (if j = 0 then 0 else c (j - 1)) * s / 10
def cfs (s : Int64) : Nat → Nat → Int64
  | 0, j => if j = 0 then 1000000000000 else 0
  | h + 1, j => nxf s (cfs s h) j
def sfs (c : Nat → Int64) : Nat → Int64
  | 0 => 0
  | k + 1 => sfs c k + c k
/-- only longs have changed -/
def fl (a : Nat) (μ m : hm_M) : Prop := m.1 = μ.1 ∧ m.2.2 = μ.2.2
theorem v_fillJ {μ : hm_M} : ∃ m, f_J7_fill_d0a16 158 20 (0 : Int64) μ = some m ∧ fl 158 μ m ∧ ∀ j, j < 20 → m.2.1 158 j = 0 := by
  unfold f_J7_fill_d0a16
  refine lo2 (L := f_J7_fill_d0a16_L6 158 20 0 (Int32.ofNat 20) (fun μz3 => some μz3)) (fun k y m => y = Int32.ofNat k ∧ fl 158 μ m ∧ ∀ j, j < k → m.2.1 158 j = 0) (fun o => ∃ m, o = some m ∧ fl 158 μ m ∧ ∀ j, j < 20 → m.2.1 158 j = 0) 20 (fun k y m hk hI => Or.inl ?_) (fun y m hI F => ?_) (fu_lt (by decide)) ⟨rfl, ⟨rfl, rfl⟩, fun j hj => absurd hj (Nat.not_lt_zero j)⟩
  · obtain ⟨rfl, f, g⟩ := hI
    refine ⟨_, hm_wJ m 158 k 0, ⟨rfl, f, fun j hj => ?_⟩, fun F => ?_⟩
    · by_cases z : j = k
      · subst z; rw [wJ_at]
      · rw [wJ_ne (by omega)]; exact g j (by omega)
    · rw [f_J7_fill_d0a16_L6, if_neg (by rw [n_le (by omega) (by omega)]; omega), sdJ_n hk (by decide), Option.bind_some, show Int32.ofNat k + 1 = Int32.ofNat (k + 1) from n_add k 1]
  · obtain ⟨rfl, f, g⟩ := hI
    refine ⟨m, ?_, f, g⟩
    rw [f_J7_fill_d0a16_L6, if_pos (by rw [n_le (by omega) (by omega)]; omega)]
theorem n_km {k d : Nat} (h : d < k) : Int32.ofNat (k - d) - 1 = Int32.ofNat (k - d - 1) := by
  rw [show (1 : Int32) = Int32.ofNat 1 from rfl, n_sub (by omega)]
theorem n_dn {k d : Nat} (h : d < k) : Int32.ofNat (k - d - 1) + -1 = Int32.ofNat (k - (d + 1)) - 1 := by
  rw [show k - (d + 1) = k - d - 1 by omega, Int32.sub_eq_add_neg]
theorem v_in9 {k : Nat} {s : Int64} {c : Nat → Int64} {v1 v2 w67 : Int32} (hk : k ≤ 20) (m0 : hm_M) (h0 : ∀ j, j < k → m0.2.1 158 j = c j) : ∃ m, (fl 158 m0 m ∧ ∀ j, j < k → m.2.1 158 j = nxf s c j) ∧ ∀ κ : (Int32 → hm_M → Option (Int64 × hm_M)) × (hm_M → Option (Int64 × hm_M)) × (hm_M → Option (Int64 × hm_M)), f_X9_few_L67 v1 v2 s w67 κ.1 κ.2.1 κ.2.2 hm_fu (Int32.ofNat k - 1) m0 = κ.2.2 m := by
  suffices H : ∃ (y : Int32) (m : hm_M), (y = Int32.ofNat (k - k) - 1 ∧ fl 158 m0 m ∧ ∀ j, j < k → m.2.1 158 j = if k - k ≤ j then nxf s c j else c j) ∧ ∀ κ : (Int32 → hm_M → Option (Int64 × hm_M)) × (hm_M → Option (Int64 × hm_M)) × (hm_M → Option (Int64 × hm_M)), f_X9_few_L67 v1 v2 s w67 κ.1 κ.2.1 κ.2.2 hm_fu (Int32.ofNat k - 1) m0 = κ.2.2 m by
    obtain ⟨y, m, ⟨-, f, g⟩, e⟩ := H
    exact ⟨m, ⟨f, fun j hj => by rw [g j hj, if_pos (by omega)]⟩, e⟩
  refine lu2 (L := fun (κ : (Int32 → hm_M → Option (Int64 × hm_M)) × (hm_M → Option (Int64 × hm_M)) × (hm_M → Option (Int64 × hm_M))) => f_X9_few_L67 v1 v2 s w67 κ.1 κ.2.1 κ.2.2) (fun d y m => y = Int32.ofNat (k - d) - 1 ∧ fl 158 m0 m ∧ ∀ j, j < k → m.2.1 158 j = if k - d ≤ j then nxf s c j else c j) (fun κ y m => κ.2.2 m) k (fun d y m hd hI => ?_) (fun y m hI κ F => ?_) (fu_lt (by omega)) ⟨rfl, ⟨rfl, rfl⟩, fun j hj => by rw [if_neg (by omega)]; exact h0 j hj⟩
  · obtain ⟨rfl, f, g⟩ := hI
    have gj := g (k - d - 1) (by omega)
    rw [if_neg (by omega)] at gj
    refine ⟨_, hm_wJ m 158 (k - d - 1) (nxf s c (k - d - 1)), ⟨rfl, f, fun j hj => ?_⟩, fun κ F => ?_⟩
    · by_cases z : j = k - d - 1
      · subst z
        rw [wJ_at, if_pos (by omega)]
      · rw [wJ_ne (by omega), g j hj]
        by_cases q : k - d ≤ j
        · rw [if_pos q, if_pos (by omega)]
        · rw [if_neg q, if_neg (by omega)]
    · rw [n_km hd, f_X9_few_L67, if_neg (n_nn (by omega))]
      unfold f_X9_few_J90
      by_cases q : k - d - 1 = 0
      · rw [if_pos (by rw [q]; decide), ldJ_n (by omega) (by decide), Option.bind_some, sdJ_n (by omega) (by decide), Option.bind_some, gj, n_dn hd]
        unfold nxf
        rw [if_pos q]
      · have g2 := g (k - d - 1 - 1) (by omega)
        rw [if_neg (by omega)] at g2
        rw [if_neg (by rw [show (0 : Int32) = Int32.ofNat 0 from rfl, n_le (by omega) (by omega)]; omega), show Int32.ofNat (k - d - 1) - 1 = Int32.ofNat (k - d - 1 - 1) from by rw [show (1 : Int32) = Int32.ofNat 1 from rfl, n_sub (by omega)], ldJ_n (by omega) (by decide), Option.bind_some, ldJ_n (by omega) (by decide), Option.bind_some, sdJ_n (by omega) (by decide), Option.bind_some, gj, g2, n_dn hd]
        unfold nxf
        rw [if_neg q]
  · obtain ⟨rfl, f, g⟩ := hI
    rw [f_X9_few_L67, if_pos (by rw [Nat.sub_self]; decide)]
theorem v_in10 {k : Nat} {s : Int64} {t : Nat} {c : Nat → Int64} {v1 v2 w67 : Int32} (hk : k ≤ 20) (ht : t ≤ 10) (hs : s = (Int32.ofNat t).toInt64) (m0 : hm_M) (h51 : m0.1 181 51 = Int32.ofNat t) (h0 : ∀ j, j < k → m0.2.1 202 j = c j) : ∃ m, (fl 202 m0 m ∧ ∀ j, j < k → m.2.1 202 j = nxf s c j) ∧ ∀ κ : (Int32 → hm_M → Option (Int64 × hm_M)) × (hm_M → Option (Int64 × hm_M)) × (hm_M → Option (Int64 × hm_M)), f_X10_few_L67 v1 v2 w67 κ.1 κ.2.1 κ.2.2 hm_fu (Int32.ofNat k - 1) m0 = κ.2.2 m := by
  have e10 : ∀ t, t ≤ 10 → ((10 : Int32) - Int32.ofNat t).toInt64 = 10 - (Int32.ofNat t).toInt64 := by decide +kernel
  suffices H : ∃ (y : Int32) (m : hm_M), (y = Int32.ofNat (k - k) - 1 ∧ fl 202 m0 m ∧ ∀ j, j < k → m.2.1 202 j = if k - k < j then nxf s c j else if j = k - k then c j * (10 - s) / 10 else c j) ∧ ∀ κ : (Int32 → hm_M → Option (Int64 × hm_M)) × (hm_M → Option (Int64 × hm_M)) × (hm_M → Option (Int64 × hm_M)), f_X10_few_L67 v1 v2 w67 κ.1 κ.2.1 κ.2.2 hm_fu (Int32.ofNat k - 1) m0 = κ.2.2 m by
    obtain ⟨y, m, ⟨-, f, g⟩, e⟩ := H
    refine ⟨m, ⟨f, fun j hj => ?_⟩, e⟩
    rw [g j hj]
    by_cases q : j = 0
    · rw [if_neg (by omega), if_pos (by omega)]
      unfold nxf
      rw [if_pos q, Int64.zero_mul, show (0 : Int64) / 10 = 0 from rfl, Int64.add_zero]
    · rw [if_pos (by omega)]
  refine lu2 (L := fun (κ : (Int32 → hm_M → Option (Int64 × hm_M)) × (hm_M → Option (Int64 × hm_M)) × (hm_M → Option (Int64 × hm_M))) => f_X10_few_L67 v1 v2 w67 κ.1 κ.2.1 κ.2.2) (fun d y m => y = Int32.ofNat (k - d) - 1 ∧ fl 202 m0 m ∧ ∀ j, j < k → m.2.1 202 j = if k - d < j then nxf s c j else if j = k - d then c j * (10 - s) / 10 else c j) (fun κ y m => κ.2.2 m) k (fun d y m hd hI => ?_) (fun y m hI κ F => ?_) (fu_lt (by omega)) ⟨rfl, ⟨rfl, rfl⟩, fun j hj => by rw [if_neg (by omega), if_neg (by omega)]; exact h0 j hj⟩
  · obtain ⟨rfl, f, g⟩ := hI
    have gj := g (k - d - 1) (by omega)
    rw [if_neg (by omega), if_neg (by omega)] at gj
    have m51 : m.1 181 51 = Int32.ofNat t := by rw [f.1]; exact h51
    refine ⟨_, hm_wJ (hm_wJ m 202 (k - d) (m.2.1 202 (k - d) + c (k - d - 1) * s / 10)) 202 (k - d - 1) (c (k - d - 1) * (10 - s) / 10), ⟨rfl, f, fun j hj => ?_⟩, fun κ F => ?_⟩
    · by_cases z : j = k - d - 1
      · subst z
        rw [wJ_at, if_neg (by omega), if_pos (by omega)]
      · rw [wJ_ne (by omega)]
        by_cases q : j = k - d
        · subst q
          rw [wJ_at, if_pos (by omega), g _ hj, if_neg (by omega), if_pos rfl]
          unfold nxf
          rw [if_neg (by omega)]
        · rw [wJ_ne (by omega), g j hj]
          by_cases q2 : k - d < j
          · rw [if_pos q2, if_pos (by omega)]
          · rw [if_neg q2, if_neg q, if_neg (by omega), if_neg (by omega)]
    · have e1 : Int32.ofNat (k - d - 1) + 1 = Int32.ofNat (k - d) := by
        rw [show (1 : Int32) = Int32.ofNat 1 from rfl, n_add, show k - d - 1 + 1 = k - d by omega]
      rw [n_km hd, f_X10_few_L67, if_neg (n_nn (by omega)), e1, ldJ_n (by omega) (by decide), Option.bind_some, ldJ_n (by omega) (by decide), Option.bind_some, show (51 : Int32) = Int32.ofNat 51 from rfl, ld_n (by decide) (by decide), Option.bind_some, sdJ_n (by omega) (by decide), Option.bind_some, ldJ_n (by omega) (by decide), Option.bind_some, ld_n (by decide) (by decide), Option.bind_some, sdJ_n (by omega) (by decide), Option.bind_some, wJ_ne (by omega), gj, m51, show (hm_wJ m 202 (k - d) (m.2.1 202 (k - d) + c (k - d - 1) * (Int32.ofNat t).toInt64 / 10)).1 181 51 = Int32.ofNat t from m51, e10 t ht, n_dn hd, hs]
  · obtain ⟨rfl, f, g⟩ := hI
    rw [f_X10_few_L67, if_pos (by rw [Nat.sub_self]; decide)]
theorem pu_few (v1 v2 : Int32) {μ : hm_M} (h : PP μ) : ∃ (r : Int64) (μ1 μ2 : hm_M), f_X9_few v1 v2 μ = some (r, μ1) ∧ f_X10_few v1 v2 μ1 = some (r, μ2) ∧ PP μ2 := by
  obtain ⟨a1, -⟩ := id h
  obtain ⟨R1, R2, R3, R4, R5, R6, R7⟩ := id a1.1
  obtain ⟨c1, c2, c3, ⟨c4, c5⟩, c6, c7⟩ := a1.2.2.2
  have t1 := R3.2.1.2
  have et := R3.2.1.1
  generalize nat (μ.1 181 51) = t at t1 et
  by_cases hc : (1 ≤ v1.toInt ∧ v1.toInt ≤ 20) ∧ 0 ≤ v2.toInt ∧ v2.toInt ≤ 99
  · obtain ⟨k, rfl, ek, lk⟩ := v_of (x := v1) (by omega)
    obtain ⟨n, rfl, en, ln⟩ := v_of (x := v2) (by omega)
    have hk : k ≤ 20 := by omega
    have hk1 : 1 ≤ k := by omega
    have hn : n ≤ 99 := by omega
    -- the component
    obtain ⟨m4, e4, f4, g4⟩ := v_fillJ (μ := μ)
    have s9 : ∃ m1, fl 158 μ m1 ∧ f_X9_few (Int32.ofNat k) (Int32.ofNat n) μ = some (sfs (cfs (Int32.ofNat t).toInt64 n) k, m1) := by
      have e70 : μ.1 70 1 = Int32.ofNat t := c3.2.1.trans et
      unfold f_X9_few
      rw [if_neg (by rw [i_lt, n_toInt (by omega)]; show ¬ (k : Int) < 1; omega), if_neg (by rw [i_lt, n_toInt (by omega)]; show ¬ (20 : Int) < k; omega), if_neg (n_nn (by omega)), if_pos (by rw [i_le, n_toInt (by omega)]; show (n : Int) ≤ 99; omega), show (1 : Int32) = Int32.ofNat 1 from rfl, ld_n (by decide) (by decide), Option.bind_some, e4, Option.bind_some, show (0 : Int32) = Int32.ofNat 0 from rfl, sdJ_n (by decide) (by decide), Option.bind_some, e70]
      refine lo2 (L := f_X9_few_L56 (Int32.ofNat k) (Int32.ofNat n) (Int32.ofNat t).toInt64 _) (fun i y m => y = Int32.ofNat i ∧ fl 158 μ m ∧ ∀ j, j < k → m.2.1 158 j = cfs (Int32.ofNat t).toInt64 i j) (fun o => ∃ m1, fl 158 μ m1 ∧ o = some (sfs (cfs (Int32.ofNat t).toInt64 n) k, m1)) n (fun i y m hi hI => Or.inl ?_) (fun y m hI F => ?_) (fu_lt (by omega)) ⟨rfl, f4, fun j hj => ?_⟩
      · obtain ⟨rfl, f, g⟩ := hI
        obtain ⟨m2, ⟨f2, g2⟩, e2⟩ := v_in9 (s := (Int32.ofNat t).toInt64) (v1 := Int32.ofNat k) (v2 := Int32.ofNat n) (w67 := Int32.ofNat i) hk m g
        refine ⟨_, m2, ⟨rfl, ⟨f2.1.trans f.1, f2.2.trans f.2⟩, g2⟩, fun F => ?_⟩
        rw [f_X9_few_L56, if_neg (by rw [n_le (by omega) (by omega)]; omega)]
        refine (e2 (_, _, _)).trans ?_
        show f_X9_few_L56 _ _ _ _ F (Int32.ofNat i + 1) m2 = _
        rw [show Int32.ofNat i + 1 = Int32.ofNat (i + 1) from n_add i 1]
      · obtain ⟨rfl, f, g⟩ := hI
        rw [f_X9_few_L56, if_pos (by rw [n_le (by omega) (by omega)]; omega)]
        refine lo3 (L := f_X9_few_L143 (Int32.ofNat k) (Int32.ofNat n) (fun z12_5 μz12 => some (z12_5, μz12))) (fun i x y m' => x = sfs (cfs (Int32.ofNat t).toInt64 n) i ∧ y = Int32.ofNat i ∧ m' = m) (fun o => ∃ m1, fl 158 μ m1 ∧ o = some (sfs (cfs (Int32.ofNat t).toInt64 n) k, m1)) k (fun i x y m' hi hI => Or.inl ?_) (fun x y m' hI F => ?_) (fu_lt (by omega)) ⟨rfl, rfl, rfl⟩
        · obtain ⟨rfl, rfl, rfl⟩ := hI
          refine ⟨_, _, m', ⟨rfl, rfl, rfl⟩, fun F => ?_⟩
          rw [f_X9_few_L143, if_neg (by rw [n_le (by omega) (by omega)]; omega), ldJ_n (by omega) (by decide), Option.bind_some, g i hi, show Int32.ofNat i + 1 = Int32.ofNat (i + 1) from n_add i 1]
          rfl
        · obtain ⟨rfl, rfl, rfl⟩ := hI
          refine ⟨m', f, ?_⟩
          rw [f_X9_few_L143, if_pos (by rw [n_le (by omega) (by omega)]; omega)]
      · by_cases z : j = 0
        · subst z
          rw [wJ_at]
          rfl
        · rw [wJ_ne (by omega), g4 j (by omega)]
          show _ = if j = 0 then (1000000000000 : Int64) else 0
          rw [if_neg z]
    obtain ⟨m1, f1, e1⟩ := s9
    have k1 : m1.1 181 51 = Int32.ofNat t := by rw [f1.1]; exact et
    have s10 : ∃ m2, fl 202 m1 m2 ∧ f_X10_few (Int32.ofNat k) (Int32.ofNat n) m1 = some (sfs (cfs (Int32.ofNat t).toInt64 n) k, m2) := by
      unfold f_X10_few
      rw [v_lies, if_pos (by rw [n_toInt (by omega)]; show (1 : Int) ≤ k ∧ (k : Int) ≤ 20; omega), Option.bind_some, if_neg (by decide), v_lies, if_pos (by rw [n_toInt (by omega)]; show (0 : Int) ≤ n ∧ (n : Int) ≤ 99; omega), Option.bind_some, if_neg (by decide)]
      refine lo2 (L := f_X10_few_L26 (Int32.ofNat k) (Int32.ofNat n) _) (fun i y m => y = Int32.ofNat i ∧ fl 202 m1 m ∧ ∀ j, j < i → m.2.1 202 j = if j = 0 then 1000000000000 else 0) (fun o => ∃ m2, fl 202 m1 m2 ∧ o = some (sfs (cfs (Int32.ofNat t).toInt64 n) k, m2)) 21 (fun i y m hi hI => Or.inl ?_) (fun y m hI F => ?_) (fu_lt (by decide)) ⟨rfl, ⟨rfl, rfl⟩, fun j hj => absurd hj (Nat.not_lt_zero j)⟩
      · obtain ⟨rfl, f, g⟩ := hI
        refine ⟨_, hm_wJ m 202 i (if i = 0 then 1000000000000 else 0), ⟨rfl, f, fun j hj => ?_⟩, fun F => ?_⟩
        · by_cases z : j = i
          · subst z; rw [wJ_at]
          · rw [wJ_ne (by omega)]; exact g j (by omega)
        · rw [f_X10_few_L26, if_neg (by rw [show (20 : Int32) = Int32.ofNat 20 from rfl, n_lt (by omega) (by omega)]; omega)]
          unfold f_X10_few_J48
          by_cases z : i = 0
          · rw [if_pos (by rw [z]; rfl), if_pos z, sdJ_n (by omega) (by decide), Option.bind_some, show Int32.ofNat i + 1 = Int32.ofNat (i + 1) from n_add i 1]
          · rw [if_neg (by rw [show (0 : Int32) = Int32.ofNat 0 from rfl, n_eq (by omega) (by omega)]; exact z), if_neg z, sdJ_n (by omega) (by decide), Option.bind_some, show Int32.ofNat i + 1 = Int32.ofNat (i + 1) from n_add i 1]
      · obtain ⟨rfl, f, g⟩ := hI
        rw [f_X10_few_L26, if_pos (by decide)]
        refine lo2 (L := f_X10_few_L57 (Int32.ofNat k) (Int32.ofNat n) _) (fun i y m' => y = Int32.ofNat i ∧ fl 202 m1 m' ∧ ∀ j, j < k → m'.2.1 202 j = cfs (Int32.ofNat t).toInt64 i j) (fun o => ∃ m2, fl 202 m1 m2 ∧ o = some (sfs (cfs (Int32.ofNat t).toInt64 n) k, m2)) n (fun i y m' hi hI => Or.inl ?_) (fun y m' hI F => ?_) (fu_lt (by omega)) ⟨rfl, f, fun j hj => g j (by omega)⟩
        · obtain ⟨rfl, f, g⟩ := hI
          obtain ⟨m2, ⟨f2, g2⟩, e2⟩ := v_in10 (s := (Int32.ofNat t).toInt64) (v1 := Int32.ofNat k) (v2 := Int32.ofNat n) (w67 := Int32.ofNat i) hk (by omega) rfl m' (by rw [f.1]; exact k1) g
          refine ⟨_, m2, ⟨rfl, ⟨f2.1.trans f.1, f2.2.trans f.2⟩, g2⟩, fun F => ?_⟩
          rw [f_X10_few_L57, if_neg (by rw [n_le (by omega) (by omega)]; omega)]
          refine (e2 (_, _, _)).trans ?_
          show f_X10_few_L57 _ _ _ F (Int32.ofNat i + 1) m2 = _
          rw [show Int32.ofNat i + 1 = Int32.ofNat (i + 1) from n_add i 1]
        · obtain ⟨rfl, f, g⟩ := hI
          rw [f_X10_few_L57, if_pos (by rw [n_le (by omega) (by omega)]; omega)]
          refine lo3 (L := f_X10_few_L151 (Int32.ofNat k) (Int32.ofNat n) (fun z16_3 μz16 => some (z16_3, μz16))) (fun i x y m2 => x = sfs (cfs (Int32.ofNat t).toInt64 n) i ∧ y = Int32.ofNat i ∧ m2 = m') (fun o => ∃ m2, fl 202 m1 m2 ∧ o = some (sfs (cfs (Int32.ofNat t).toInt64 n) k, m2)) k (fun i x y m2 hi hI => Or.inl ?_) (fun x y m2 hI F => ?_) (fu_lt (by omega)) ⟨rfl, rfl, rfl⟩
          · obtain ⟨rfl, rfl, rfl⟩ := hI
            refine ⟨_, _, m2, ⟨rfl, rfl, rfl⟩, fun F => ?_⟩
            rw [f_X10_few_L151, if_neg (by rw [n_le (by omega) (by omega)]; omega), ldJ_n (by omega) (by decide), Option.bind_some, g i hi, show Int32.ofNat i + 1 = Int32.ofNat (i + 1) from n_add i 1]
            rfl
          · obtain ⟨rfl, rfl, rfl⟩ := hI
            refine ⟨m2, f, ?_⟩
            rw [f_X10_few_L151, if_pos (by rw [n_le (by omega) (by omega)]; omega)]
    obtain ⟨m2, f2, e2⟩ := s10
    exact ⟨_, m1, m2, e1, e2, fs_PP h ⟨f2.2.trans f1.2, fun a j _ => by rw [f2.1, f1.1]⟩⟩
  · refine ⟨-1, μ, μ, ?_, ?_, h⟩
    · unfold f_X9_few
      by_cases q1 : v1 < (1 : Int32)
      · rw [if_pos q1]
      · rw [if_neg q1]
        by_cases q2 : (20 : Int32) < v1
        · rw [if_pos q2]
        · rw [if_neg q2]
          by_cases q3 : v2 < 0
          · rw [if_pos q3]
          · rw [if_neg q3, if_neg]
            intro q4
            apply hc
            simp only [i_lt, i_le, show (0 : Int32).toInt = 0 from rfl, show (1 : Int32).toInt = 1 from rfl, show (20 : Int32).toInt = 20 from rfl, show (99 : Int32).toInt = 99 from rfl] at *
            omega
    · unfold f_X10_few
      rw [v_lies]
      by_cases q1 : (1 : Int32).toInt ≤ v1.toInt ∧ v1.toInt ≤ (20 : Int32).toInt
      · rw [if_pos q1, Option.bind_some, if_neg (by decide), v_lies, if_neg]
        · rfl
        · intro q2
          apply hc
          exact ⟨q1, q2⟩
      · rw [if_neg q1]
        rfl
end
