/-! The plain calls. -/
/-- a refusal -/
def rj9 (k : Int32) : Nat := if k = -1 then 0 else if k = -2 then 1 else if k = -3 then 2 else if k = -5 then 3 else 4
def rj10 (k : Int32) : Nat := if k = -1 then 1 else if k = -2 then 2 else if k = -3 then 3 else if k = -5 then 5 else 6
def rk (k : Int32) : Prop := k = -1 ∨ k = -2 ∨ k = -3 ∨ k = -5 ∨ k = -6
def rf9 (k : Int32) (μ : hm_M) : hm_M := hm_wI (hm_wI μ 64 16 k) 157 (rj9 k) (μ.1 157 (rj9 k) + 1)
def rf10 (k : Int32) (μ : hm_M) : hm_M := hm_wI (hm_wI μ 179 0 k) 180 (rj10 k) (μ.1 180 (rj10 k) + 1)
theorem v_rf9 {k : Int32} (h : rk k) (μ : hm_M) : f_X9_refused k μ = some (k, rf9 k μ) := by
  rcases h with rfl | rfl | rfl | rfl | rfl <;> rfl
theorem v_rf10 {k : Int32} (h : rk k) (μ : hm_M) : f_X10_refuses k μ = some (k, rf10 k μ) := by
  rcases h with rfl | rfl | rfl | rfl | rfl <;> rfl
theorem v_rf9n {n : Nat} (h : n = 1 ∨ n = 2 ∨ n = 3 ∨ n = 5 ∨ n = 6) (μ : hm_M) : f_X9_refused (-Int32.ofNat n) μ = some (-Int32.ofNat n, rf9 (-Int32.ofNat n) μ) := by
  rcases h with rfl | rfl | rfl | rfl | rfl <;> rfl
theorem v_rf10n {n : Nat} (h : n = 1 ∨ n = 2 ∨ n = 3 ∨ n = 5 ∨ n = 6) (μ : hm_M) : f_X10_refuses (-Int32.ofNat n) μ = some (-Int32.ofNat n, rf10 (-Int32.ofNat n) μ) := by
  rcases h with rfl | rfl | rfl | rfl | rfl <;> rfl
theorem rz_n0 : hm_rz (Int32.ofNat 0) = some (Int32.ofNat 0) := rfl
theorem rz_n1 : hm_rz (Int32.ofNat 1) = some (Int32.ofNat 1) := rfl
theorem pZ_n0 (μ : hm_M) (a k : Nat) : hm_pZ μ a k (Int32.ofNat 0) = some (hm_wI μ a k (Int32.ofNat 0)) := rfl
theorem pZ_n1 (μ : hm_M) (a k : Nat) : hm_pZ μ a k (Int32.ofNat 1) = some (hm_wI μ a k (Int32.ofNat 1)) := rfl
theorem rf9_ne {k : Int32} {μ : hm_M} {a j : Nat} (h : ¬ (a = 64 ∧ j = 16) ∧ a ≠ 157) : (rf9 k μ).1 a j = μ.1 a j := by
  unfold rf9
  rw [wI_ne (by omega), wI_ne (by omega)]
theorem v_gr9 (k : Int32) (μ : hm_M) : f_X9_granted k μ = some (k, hm_wI μ 64 16 0) := rfl
theorem v_gd10 (k : Int32) (μ : hm_M) : f_X10_good k μ = some (k, hm_wI μ 179 0 0) := rfl
theorem v_st10 (k : Int32) (μ : hm_M) : f_X10_settled k μ = some (k, hm_wI (hm_wI μ 179 33 0) 179 0 0) := rfl
theorem v_cl7 (o : Nat) (μ : hm_M) : f_X7_clear o μ = some (hm_wI μ o 2 0) := rfl
theorem v_lies (a b c : Int32) : f_X10_lies a b c = some (if b.toInt ≤ a.toInt ∧ a.toInt ≤ c.toInt then 1 else 0) := by
  unfold f_X10_lies
  simp only [i_lt]
  by_cases h1 : a.toInt < b.toInt
  · rw [if_pos h1, if_neg (by omega)]
  · by_cases h2 : c.toInt < a.toInt
    · rw [if_neg h1, if_pos h2, if_neg (by omega)]
    · rw [if_neg h1, if_neg h2, if_pos (by omega)]
theorem v_can9 (a b c : Int32) : f_X9_canBePerson a b c = some (if (0 ≤ a.toInt ∧ a.toInt < 25) ∧ (0 ≤ b.toInt ∧ b.toInt < 5) ∧ 0 ≤ c.toInt ∧ c.toInt < 4 then 1 else 0) := by
  unfold f_X9_canBePerson
  simp (disch := omega) only [n_lit, i_lt, i_le, i_eq, n_toInt, n_neg, if_pos, if_neg, if_true, if_false, Option.bind_some, b2_some, pI_some, ld_n, sd_n, n_add, n_mul, n_sub, wI_ne, wI_eq, wI_r, rf9_ne, and_true, true_and, rz_n0, rz_n1, pZ_n0, pZ_n1, v_rf9n, v_rf10n, -Int32.reduceOfNat]
  repeat' split
  all_goals first | rfl | (exfalso; omega)
theorem v_can10 (a b c : Int32) : f_X10_canBe a b c = some (if (0 ≤ a.toInt ∧ a.toInt < 25) ∧ (0 ≤ b.toInt ∧ b.toInt < 5) ∧ 0 ≤ c.toInt ∧ c.toInt < 4 then 1 else 0) := by
  by_cases h1 : 0 ≤ a.toInt ∧ a.toInt < 25 <;> by_cases h2 : 0 ≤ b.toInt ∧ b.toInt < 5 <;> by_cases h3 : 0 ≤ c.toInt ∧ c.toInt < 4 <;> simp (disch := omega) only [f_X10_canBe, v_lies, n_lit, i_lt, i_le, i_eq, n_toInt, n_neg, if_pos, if_neg, if_true, if_false, Option.bind_some, b2_some, pI_some, ld_n, sd_n, n_add, n_mul, n_sub, wI_ne, wI_eq, wI_r, rf9_ne, and_true, true_and, rz_n0, rz_n1, pZ_n0, pZ_n1, v_rf9n, v_rf10n, -Int32.reduceOfNat]
theorem rf_PM {k : Int32} (hk : rk k) {μ : hm_M} (h : PM μ) : PM (rf10 k (rf9 k μ)) := by
  obtain ⟨⟨a1, a2, a3, a4⟩, b1, b2, b3, b4, b5⟩ := h
  unfold PM rf10 rf9
  rcases hk with rfl | rfl | rfl | rfl | rfl
  · rw [show rj9 (-1) = 0 from rfl, show rj10 (-1) = 1 from rfl]
    simp (disch := omega) only [wI_ne, wI_eq]
    exact ⟨⟨a1, a2, a3, trivial⟩, by rw [b1], b2, b3, b4, b5⟩
  · rw [show rj9 (-2) = 1 from rfl, show rj10 (-2) = 2 from rfl]
    simp (disch := omega) only [wI_ne, wI_eq]
    exact ⟨⟨a1, a2, a3, trivial⟩, b1, by rw [b2], b3, b4, b5⟩
  · rw [show rj9 (-3) = 2 from rfl, show rj10 (-3) = 3 from rfl]
    simp (disch := omega) only [wI_ne, wI_eq]
    exact ⟨⟨a1, a2, a3, trivial⟩, b1, b2, by rw [b3], b4, b5⟩
  · rw [show rj9 (-5) = 3 from rfl, show rj10 (-5) = 5 from rfl]
    simp (disch := omega) only [wI_ne, wI_eq]
    exact ⟨⟨a1, a2, a3, trivial⟩, b1, b2, b3, by rw [b4], b5⟩
  · rw [show rj9 (-6) = 4 from rfl, show rj10 (-6) = 6 from rfl]
    simp (disch := omega) only [wI_ne, wI_eq]
    exact ⟨⟨a1, a2, a3, trivial⟩, b1, b2, b3, b4, by rw [b5]⟩
theorem rf_PP {k : Int32} (hk : rk k) {μ : hm_M} (h : PP μ) : PP (rf10 k (rf9 k μ)) := by
  obtain ⟨a1, a2, a3, a4, a5, a6, a7⟩ := h
  refine ⟨PV.same a1 rfl ?_, a2.same rfl ?_, a3.same ?_, a4.same ?_, a5.same ?_, rf_PM hk a6, a7.same ?_⟩ <;> unfold rf10 rf9
  · exact (fun a j z => by unfold dV at z; first | rfl | (simp (disch := omega) only [wI_ne]))
  · exact (fun a j z => by unfold dI at z; first | rfl | (simp (disch := omega) only [wI_ne]))
  · exact (fun a j z => by unfold dD at z; first | rfl | (simp (disch := omega) only [wI_ne]))
  · exact (fun a j z => by unfold dS at z; first | rfl | (simp (disch := omega) only [wI_ne]))
  · exact (fun a j z => by unfold dT at z; first | rfl | (simp (disch := omega) only [wI_ne]))
  · exact (fun j => by first | rfl | (simp (disch := omega) only [wI_ne]))
theorem pu_status : pu_G PP f_X9_status f_X10_status := fun μ h => ⟨_, rfl, by rw [h.2.2.2.2.2.1.1.2.2.2]; rfl⟩
theorem pu_gaps : pu_G PP f_X9_gaps f_X10_gaps := fun μ h => ⟨_, rfl, by rw [h.2.2.2.2.2.1.1.2.2.1]; rfl⟩
theorem pu_fault : pu_G PP f_X9_fault f_X10_fault := fun μ h => ⟨_, rfl, by rw [h.2.2.2.2.2.1.1.1]; rfl⟩
theorem pu_stopped : pu_G PP f_X9_stopped f_X10_stopped := fun μ h => ⟨_, rfl, by rw [h.2.2.2.2.2.1.1.2.1]; rfl⟩
theorem pm_set {μ μ' : hm_M} (h : PM μ) (hz : μ'.1 64 16 = μ'.1 179 0) (h1 : ∀ a j, dM a j ∧ ¬ (a = 64 ∧ j = 16) ∧ ¬ (a = 179 ∧ j = 0) → μ'.1 a j = μ.1 a j) : PM μ' := by
  unfold PM at h ⊢
  rw [h1 64 13 (by unfold dM; omega), h1 64 14 (by unfold dM; omega), h1 64 15 (by unfold dM; omega), hz, h1 179 14 (by unfold dM; omega), h1 179 46 (by unfold dM; omega), h1 179 6 (by unfold dM; omega), h1 157 0 (by unfold dM; omega), h1 157 1 (by unfold dM; omega), h1 157 2 (by unfold dM; omega), h1 157 3 (by unfold dM; omega), h1 157 4 (by unfold dM; omega), h1 180 1 (by unfold dM; omega), h1 180 2 (by unfold dM; omega), h1 180 3 (by unfold dM; omega), h1 180 5 (by unfold dM; omega), h1 180 6 (by unfold dM; omega)]
  exact ⟨⟨h.1.1, h.1.2.1, h.1.2.2.1, rfl⟩, h.2⟩
theorem ps_clear {μ : hm_M} (h : bd (μ.1 87 1) 17) (h2 : μ.1 87 2 = 0) (h3 : μ.1 179 33 = 0) : PS μ := by
  unfold PS
  rw [h2, h3]
  exact ⟨h, bd_n (n := 0) (by decide) (by decide), rfl, fun i hi => absurd hi (Nat.not_lt_zero i)⟩
theorem bd_mono {x : Int32} {a b : Nat} (h : bd x a) (hab : a ≤ b) : bd x b := ⟨h.1, Nat.lt_of_lt_of_le h.2 hab⟩
theorem v_of {x : Int32} (h : 0 ≤ x.toInt) : ∃ n : Nat, x = Int32.ofNat n ∧ x.toInt = n ∧ n < 2147483648 := by
  have h2 := Int32.toInt_lt x
  refine ⟨x.toInt.toNat, ?_, by omega, by omega⟩
  apply Int32.toInt_inj.mp
  rw [n_toInt (by omega)]
  omega
/-- the laws' texts are as they were -/
theorem laws_same {μ μ' : hm_M} {v v' : Nat} {ρ ρ' : Nat → Int32} (h : vb_laws μ v ρ) (h5 : nat (ρ' 56) = nat (ρ 56)) (hr : ∀ k, 58 ≤ k → ρ' k = ρ k) (h2 : ∀ t, t < 6 → nat (ρ 56) ≤ 6 → μ'.2.2.1 (v' + 6) t = μ.2.2.1 (v + 6) t) (h6 : nat (ρ 56) ≤ 6) (h1 : ∀ a j, 205 ≤ a → μ'.1 a j = μ.1 a j) (hln : hm_ln μ' = hm_ln μ) : vb_laws μ' v' ρ' := by
  intro t ht
  rw [h5] at ht
  obtain ⟨p, p1, p2, pl, p3⟩ := h t ht
  have e1 : ∀ a, 205 ≤ a → μ'.1 a = μ.1 a := fun a ha => funext fun j => h1 a j ha
  refine ⟨p, by rw [h2 t (by omega) h6]; exact p1, p2, by unfold pgl at pl ⊢; rw [e1 _ p2, hln]; exact pl, ?_⟩
  rw [e1 _ (by omega), e1 _ (by omega), e1 _ (by omega), e1 _ (by omega), hr (58 + t) (by omega)]
  have e2 : (fun k => ρ' (65 + 400 * t + k)) = fun k => ρ (65 + 400 * t + k) := funext fun k => hr _ (by omega)
  have e3 : (fun k => ρ' (2865 + 400 * t + k)) = fun k => ρ (2865 + 400 * t + k) := funext fun k => hr _ (by omega)
  rw [e2, e3]
  exact p3
theorem seen_same {μ μ' : hm_M} {v v' : Nat} {ρ ρ' : Nat → Int32} (h : vb_seen μ v ρ) (h5 : nat (ρ' 55) = nat (ρ 55)) (h6 : nat (ρ 55) ≤ 6) (hr : ∀ k, 33 ≤ k → k < 51 → ρ' k = ρ k) (h1 : ∀ j, j < 6 → μ'.1 (v' + 7) j = μ.1 (v + 7) j ∧ μ'.1 (v' + 8) j = μ.1 (v + 8) j ∧ μ'.1 (v' + 9) j = μ.1 (v + 9) j) : vb_seen μ' v' ρ' := by
  intro k hk
  rw [h5] at hk
  rw [hr _ (by omega) (by omega), hr _ (by omega) (by omega), hr _ (by omega) (by omega), (h1 k (by omega)).1, (h1 k (by omega)).2.1, (h1 k (by omega)).2.2]
  exact h k hk
theorem rws_same {ρ ρ' : Nat → Int32} (h : rw_seen ρ) (h5 : nat (ρ' 55) = nat (ρ 55)) (h6 : nat (ρ 55) ≤ 6) (h4 : nat (ρ 54) ≤ nat (ρ' 54)) (hr : ∀ k, 33 ≤ k → k < 51 → ρ' k = ρ k) : rw_seen ρ' := by
  intro k hk
  rw [h5] at hk
  rw [hr (33 + 3 * k) (by omega) (by omega), hr (34 + 3 * k) (by omega) (by omega), hr (35 + 3 * k) (by omega) (by omega)]
  obtain ⟨a, b, c, d⟩ := h k hk
  exact ⟨bd_mono a h4, bd_mono b h4, c, d⟩
theorem pu_person (v1 v2 v3 : Int32) : pu_R PP (f_X9_person v1 v2 v3) (f_X10_person v1 v2 v3) := by
  intro μ h
  obtain ⟨a1, a2, a3, a4, a5, a6, a7⟩ := id h
  obtain ⟨⟨hn, hn9⟩, r2, r3, r4, r5, r6, r7⟩ := a1.1
  obtain ⟨c1, c2, c3, ⟨c4, c5⟩, c6, c7⟩ := a1.2.2.2
  generalize hN : nat (μ.1 181 54) = n at hn hn9
  have c1' := c1
  rw [hn] at c1
  by_cases c : (0 ≤ v1.toInt ∧ v1.toInt < 25) ∧ (0 ≤ v2.toInt ∧ v2.toInt < 5) ∧ 0 ≤ v3.toInt ∧ v3.toInt < 4
  · by_cases h8 : n < 8
    · refine ⟨Int32.ofNat n, ?_⟩
      refine ⟨_, _, by simp (disch := omega) only [f_X9_person, v_can9, v_cl7, f_X8_addPerson, v_gr9, c1, n_lit, i_lt, i_le, i_eq, n_toInt, n_neg, if_pos, if_neg, if_true, if_false, Option.bind_some, b2_some, pI_some, ld_n, sd_n, n_add, n_mul, n_sub, wI_ne, wI_eq, wI_r, rf9_ne, and_true, true_and, rz_n0, rz_n1, pZ_n0, pZ_n1, v_rf9n, v_rf10n, -Int32.reduceOfNat]; rfl, by simp (disch := omega) only [f_X10_person, v_can10, f_X10_many, f_X10_adds, v_st10, hn, n_lit, i_lt, i_le, i_eq, n_toInt, n_neg, if_pos, if_neg, if_true, if_false, Option.bind_some, b2_some, pI_some, ld_n, sd_n, n_add, n_mul, n_sub, wI_ne, wI_eq, wI_r, rf9_ne, and_true, true_and, rz_n0, rz_n1, pZ_n0, pZ_n1, v_rf9n, v_rf10n, -Int32.reduceOfNat]; rfl, ?_⟩
      obtain ⟨x1, rfl, e1, l1⟩ := v_of c.1.1
      obtain ⟨x2, rfl, e2, l2⟩ := v_of c.2.1.1
      obtain ⟨x3, rfl, e3, l3⟩ := v_of c.2.2.1
      refine ⟨⟨⟨?_, fun i hi => ?_, ?_, ?_, ?_, ⟨fun p q hp hq => ?_, fun p q hp => ?_⟩, ?_⟩, ?_, ?_, ?_, fun i hi => ?_, ?_, ?_, ?_, ?_⟩, a2.same rfl (fun a j z => by unfold dI at z; first | rfl | (simp (disch := omega) only [wI_ne])), a3.same (fun a j z => by unfold dD at z; first | rfl | (simp (disch := omega) only [wI_ne])), ?_, a5.same (fun a j z => by unfold dT at z; first | rfl | (simp (disch := omega) only [wI_ne])), ?_, a7.same (fun j => by first | rfl | (simp (disch := omega) only [wI_ne]))⟩
      · simp (disch := omega) only [wI_ne, wI_eq]
        exact bd_n (by omega) (by decide)
      · have := r2 i hi
        by_cases e : i = n
        · subst e
          simp (disch := omega) only [wI_ne, wI_eq]
          exact ⟨bd_n (by omega) (by decide), bd_n (by omega) (by decide), bd_n (by omega) (by decide), bd_n (n := 0) (by decide) (by decide)⟩
        · simp (disch := omega) only [wI_ne]
          exact this
      · simp (disch := omega) only [wI_ne]
        exact r3
      · simp (disch := omega) only [wI_ne]
        exact r4
      · simp (disch := omega) only [wI_ne]
        exact r5
      · by_cases e1 : p = n <;> by_cases e2 : q = n
        · subst e1; subst e2; rfl
        · subst e1
          simp (disch := omega) only [wI_ne, wI_eq]
          have := r6.2 q p hq
          rw [hN] at this
          rw [show nat (Int32.ofNat 0) = 0 from rfl, Nat.zero_testBit]
          cases z : (nat (μ.1 181 (16 + q))).testBit p with
          | false => rfl
          | true => have := this z; omega
        · subst e2
          simp (disch := omega) only [wI_ne, wI_eq]
          have := r6.2 p q hp
          rw [hN] at this
          rw [show nat (Int32.ofNat 0) = 0 from rfl, Nat.zero_testBit]
          cases z : (nat (μ.1 181 (16 + p))).testBit q with
          | false => rfl
          | true => have := this z; omega
        · simp (disch := omega) only [wI_ne]
          exact r6.1 p q hp hq
      · intro z
        by_cases e1 : p = n
        · subst e1
          simp (disch := omega) only [wI_ne, wI_eq] at z
          rw [show nat (Int32.ofNat 0) = 0 from rfl, Nat.zero_testBit] at z
          cases z
        · simp (disch := omega) only [wI_ne] at z
          have := r6.2 p q hp z
          rw [hN] at this
          simp (disch := omega) only [wI_ne, wI_eq, nat_n]
          omega
      · refine rws_same r7 (by simp (disch := omega) only [wI_ne]) (by have := r4.2; omega) ?_ (fun k h1 h2 => by simp (disch := omega) only [wI_ne])
        simp (disch := omega) only [wI_ne, wI_eq, nat_n]
        omega
      · have := a1.2.1
        unfold rw_force at this ⊢
        simp (disch := omega) only [wI_ne]
        exact this
      · simp (disch := omega) only [wI_ne]
        exact a1.2.2.1
      · simp (disch := omega) only [wI_ne, wI_eq]
      · have := c2 i hi
        by_cases e : i = n
        · subst e
          simp (disch := omega) only [wI_ne, wI_eq]
          exact ⟨trivial, trivial, trivial, trivial⟩
        · simp (disch := omega) only [wI_ne]
          exact this
      · simp (disch := omega) only [wI_ne]
        exact c3
      · simp (disch := omega) only [wI_ne]
        exact ⟨c4, c5⟩
      · exact seen_same c6 (by simp (disch := omega) only [wI_ne]) (by have := r4.2; omega) (fun k h1 h2 => by simp (disch := omega) only [wI_ne]) (fun j hj => by simp (disch := omega) only [wI_ne]; exact ⟨trivial, trivial, trivial⟩)
      · exact laws_same c7 (by simp (disch := omega) only [wI_ne]) (fun k hk => by simp (disch := omega) only [wI_ne]) (fun t _ _ => rfl) (by have := r5.2; omega) (fun a j ha => by simp (disch := omega) only [wI_ne]) rfl
      · refine ps_clear ?_ ?_ ?_ <;> simp (disch := omega) only [wI_ne, wI_eq]
        · exact a4.1
        · rfl
        · rfl
      · refine pm_set a6 (by simp (disch := omega) only [wI_ne, wI_eq]) (fun a j z => by unfold dM at z; first | rfl | (simp (disch := omega) only [wI_ne]))
    · refine ⟨-Int32.ofNat 5, _, _, by simp (disch := omega) only [f_X9_person, v_can9, c1, n_lit, i_lt, i_le, i_eq, n_toInt, n_neg, if_pos, if_neg, if_true, if_false, Option.bind_some, b2_some, pI_some, ld_n, sd_n, n_add, n_mul, n_sub, wI_ne, wI_eq, wI_r, rf9_ne, and_true, true_and, rz_n0, rz_n1, pZ_n0, pZ_n1, v_rf9n, v_rf10n, -Int32.reduceOfNat]; rfl, by simp (disch := omega) only [f_X10_person, v_can10, f_X10_many, hn, n_lit, i_lt, i_le, i_eq, n_toInt, n_neg, if_pos, if_neg, if_true, if_false, Option.bind_some, b2_some, pI_some, ld_n, sd_n, n_add, n_mul, n_sub, wI_ne, wI_eq, wI_r, rf9_ne, and_true, true_and, rz_n0, rz_n1, pZ_n0, pZ_n1, v_rf9n, v_rf10n, -Int32.reduceOfNat]; rfl, ?_⟩
      exact rf_PP (k := -5) (by unfold rk; decide) h
  · refine ⟨-Int32.ofNat 1, _, _, by simp (disch := omega) only [f_X9_person, v_can9, n_lit, i_lt, i_le, i_eq, n_toInt, n_neg, if_pos, if_neg, if_true, if_false, Option.bind_some, b2_some, pI_some, ld_n, sd_n, n_add, n_mul, n_sub, wI_ne, wI_eq, wI_r, rf9_ne, and_true, true_and, rz_n0, rz_n1, pZ_n0, pZ_n1, v_rf9n, v_rf10n, -Int32.reduceOfNat]; rfl, by simp (disch := omega) only [f_X10_person, v_can10, n_lit, i_lt, i_le, i_eq, n_toInt, n_neg, if_pos, if_neg, if_true, if_false, Option.bind_some, b2_some, pI_some, ld_n, sd_n, n_add, n_mul, n_sub, wI_ne, wI_eq, wI_r, rf9_ne, and_true, true_and, rz_n0, rz_n1, pZ_n0, pZ_n1, v_rf9n, v_rf10n, -Int32.reduceOfNat]; rfl, ?_⟩
    exact rf_PP (k := -1) (by unfold rk; decide) h
