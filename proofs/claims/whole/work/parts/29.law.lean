/-! The layout behind a trimmed copy; HandRing.law. -/
def hm_LX (μ : hm_M) : Prop := ∃ ν : hm_N, hm_LL ν μ
theorem hm_trim_s {o0 n1 n2 : Nat} {μ μR : hm_M} (h : f_X5_trimmed o0 n1 n2 μ = some μR) : μR.2.2 = (hm_i5 (hm_al μ 5 0) (hm_nx μ) n1 n2).2.2 := by
  unfold f_X5_trimmed at h
  obtain ⟨μ1, c1, h⟩ := hm_bs h
  obtain ⟨μ2, c2, h⟩ := hm_bs h
  obtain ⟨μ3, c3, h⟩ := hm_bs h
  obtain ⟨μ4, c4, h⟩ := hm_bs h
  obtain ⟨μ5, c5, h⟩ := hm_bs h
  exact (hm_pZ_s h).trans ((hm_pI_s c5).trans ((hm_pI_s c4).trans ((hm_cp_s c3).trans ((hm_cp_s c2).trans (hm_cp_s c1)))))
theorem hm_R0_lt : ∀ q ∈ hm_R0, q.1 < 205 := by decide +kernel
theorem la_i5 {ν : hm_N} {μ : hm_M} (n1 n2 : Nat) (hL : hm_LL ν μ) : ∃ ν' : hm_N, hm_LL ν' (hm_i5 (hm_al μ 5 0) (hm_nx μ) n1 n2) ∧ hm_pg ν' (hm_nx μ) ∧ (∀ q, hm_pg ν q → hm_pg ν' q) ∧ ν'.1 = ν.1 := by
  have hnx : ν.2.1 = hm_nx μ := by rw [← hL.1]
  have h205 : 205 ≤ hm_nx μ := by rw [← hnx]; exact hL.2.1
  have K : ∀ b, b < hm_nx μ → hm_kd (hm_i5 (hm_al μ 5 0) (hm_nx μ) n1 n2) b = ν.2.2.1 b ∧ hm_ln (hm_i5 (hm_al μ 5 0) (hm_nx μ) n1 n2) b = ν.2.2.2 b := fun b hb => by
    rw [hm_i5_k, hm_i5_l, if_neg (by omega), if_neg (by omega), if_neg (by omega), if_neg (by omega), if_neg (by omega), if_neg (by omega), if_neg (by omega), if_neg (by omega), ← hL.1]
    exact ⟨rfl, rfl⟩
  have R : ∀ b j, b < hm_nx μ → (hm_i5 (hm_al μ 5 0) (hm_nx μ) n1 n2).2.2.1 b j = μ.2.2.1 b j := fun b j hb => by
    rw [hm_i5_R, if_neg (by omega), if_neg (by omega), if_neg (by omega), if_neg (by omega), if_neg (by omega), if_neg (by omega), if_neg (by omega)]
  have kp : hm_kd (hm_i5 (hm_al μ 5 0) (hm_nx μ) n1 n2) (hm_nx μ) = 5 := by rw [hm_i5_k, if_neg (by omega), if_neg (by omega), if_neg (by omega), if_pos rfl]
  have k1 : hm_kd (hm_i5 (hm_al μ 5 0) (hm_nx μ) n1 n2) (hm_nx μ + 1) = 13 := by rw [hm_i5_k, if_neg (by omega), if_neg (by omega), if_pos rfl]
  have k2 : hm_kd (hm_i5 (hm_al μ 5 0) (hm_nx μ) n1 n2) (hm_nx μ + 2) = 13 := by rw [hm_i5_k, if_neg (by omega), if_pos rfl]
  have k3 : hm_kd (hm_i5 (hm_al μ 5 0) (hm_nx μ) n1 n2) (hm_nx μ + 3) = 13 := by rw [hm_i5_k, if_pos rfl]
  have up : ∀ q, hm_pg ν q → hm_pg ((hm_i5 (hm_al μ 5 0) (hm_nx μ) n1 n2).2.2.1 150 1, (hm_i5 (hm_al μ 5 0) (hm_nx μ) n1 n2).2.2.2) q := fun q hq => by
    have hq2 : q + 3 < hm_nx μ := by rw [← hnx]; exact hq.2.1
    exact ⟨hq.1, by show q + 3 < hm_nx μ + 4; omega, ((K q (by omega)).1).trans hq.2.2.1, ((K (q + 1) (by omega)).1).trans hq.2.2.2.1, ((K (q + 2) (by omega)).1).trans hq.2.2.2.2.1, ((K (q + 3) (by omega)).1).trans hq.2.2.2.2.2⟩
  refine ⟨((hm_i5 (hm_al μ 5 0) (hm_nx μ) n1 n2).2.2.1 150 1, (hm_i5 (hm_al μ 5 0) (hm_nx μ) n1 n2).2.2.2), ⟨rfl, ?_, fun j q hj => ?_, fun j q hj => ?_, fun p hp => ?_, fun v j p hv hj hp => ?_⟩, ⟨by omega, by show hm_nx μ + 3 < hm_nx μ + 4; omega, kp, k1, k2, k3⟩, up, ?_⟩
  · show 205 ≤ hm_nx μ + 4
    omega
  · have hl : j < 141 := (List.getElem?_eq_some_iff.mp hj).1
    have := hL.2.2.1 j q hj
    exact ⟨((K (64 + j) (by omega)).1).trans this.1, ((K (64 + j) (by omega)).2).trans this.2⟩
  · have := hm_R0_lt q (List.mem_of_getElem? hj)
    rw [R _ _ (by omega)]
    exact hL.2.2.2.1 j q hj
  · obtain ⟨p1, p2, p3, p4, p5, p6⟩ := hp
    have p2 : p + 3 < hm_nx μ + 4 := p2
    have p3 : hm_kd (hm_i5 (hm_al μ 5 0) (hm_nx μ) n1 n2) p = 5 := p3
    have p4 : hm_kd (hm_i5 (hm_al μ 5 0) (hm_nx μ) n1 n2) (p + 1) = 13 := p4
    have p5 : hm_kd (hm_i5 (hm_al μ 5 0) (hm_nx μ) n1 n2) (p + 2) = 13 := p5
    have p6 : hm_kd (hm_i5 (hm_al μ 5 0) (hm_nx μ) n1 n2) (p + 3) = 13 := p6
    by_cases e0 : p = hm_nx μ
    · subst e0
      refine ⟨?_, ?_, ?_⟩
      · rw [hm_i5_R, if_neg (by omega), if_neg (by omega), if_neg (by omega), if_neg (by omega), if_pos ⟨rfl, rfl⟩]
      · rw [hm_i5_R, if_neg (by omega), if_neg (by omega), if_pos ⟨rfl, rfl⟩]
      · rw [hm_i5_R, if_pos ⟨rfl, rfl⟩]
    · by_cases e4 : p + 3 < hm_nx μ
      · have hq : hm_pg ν p := ⟨p1, by rw [hnx]; exact e4, ((K p (by omega)).1).symm.trans p3, ((K (p + 1) (by omega)).1).symm.trans p4, ((K (p + 2) (by omega)).1).symm.trans p5, ((K (p + 3) (by omega)).1).symm.trans p6⟩
        rw [R _ _ (by omega), R _ _ (by omega), R _ _ (by omega)]
        exact hL.2.2.2.2.1 p hq
      · exfalso
        rcases (show p + 3 = hm_nx μ ∨ p + 2 = hm_nx μ ∨ p + 1 = hm_nx μ by omega) with z | z | z
        · rw [z, kp] at p6; cases p6
        · rw [z, kp] at p5; cases p5
        · rw [z, kp] at p4; cases p4
  · have hv6 : v + 6 < 205 := by rcases hv with rfl | rfl | rfl | rfl | rfl <;> decide
    rw [R _ _ (by omega)] at hp
    exact up p (hL.2.2.2.2.2 v j p hv hj hp)
  · show (hm_i5 (hm_al μ 5 0) (hm_nx μ) n1 n2).2.2.1 150 1 = ν.1
    rw [R _ _ (by omega), ← hL.1]
def hm_tm (μ : hm_M) : Option hm_M := if μ.1 151 3 < 0 ∨ 400 < (μ.1 151 3).toNatClampNeg ∨ μ.1 151 4 < 0 ∨ 12 < (μ.1 151 4).toNatClampNeg then none else f_X5_trimmed 151 (μ.1 151 3).toNatClampNeg (μ.1 151 4).toNatClampNeg μ
theorem nI_self {x : Int32} (h : ¬ x < 0) : x = nI x.toNatClampNeg := by
  obtain ⟨j, hj, rfl⟩ := nI_of h
  rw [nI_clamp hj]
theorem ok_tm {Λ : hm_M → Prop} {fr : Nat} (hfr : 2 ≤ fr) {ν : hm_N} (μ : hm_M) (hL : hm_LL ν μ) {μR : hm_M} (h : hm_tm μ = some μR) (hΛ : Λ μR) : hm_CC Λ m_X5_trimmed fr 4 878 [.ref 151] μ (some (va_rf (some (hm_nx μ)))) μR := by
  rcases hm_is h with ⟨-, h⟩ | ⟨hc, h⟩
  · cases h
  have a1 : ¬ μ.1 151 3 < 0 := fun z => hc (Or.inl z)
  have a2 : ¬ 400 < (μ.1 151 3).toNatClampNeg := fun z => hc (Or.inr (Or.inl z))
  have a3 : ¬ μ.1 151 4 < 0 := fun z => hc (Or.inr (Or.inr (Or.inl z)))
  have a4 : ¬ 12 < (μ.1 151 4).toNatClampNeg := fun z => hc (Or.inr (Or.inr (Or.inr z)))
  exact ok_X5_trimmed hfr (la_pg151 hL) (by omega) (by omega) μ hL (nI_self a1) (nI_self a3) h hΛ
theorem la_tm {ν : hm_N} {μ μR : hm_M} (hL : hm_LL ν μ) (h : hm_tm μ = some μR) : ∃ ν' : hm_N, hm_LL ν' μR ∧ hm_pg ν' (hm_nx μ) ∧ (∀ q, hm_pg ν q → hm_pg ν' q) ∧ ν'.1 = ν.1 := by
  rcases hm_is h with ⟨-, h⟩ | ⟨hc, h⟩
  · cases h
  obtain ⟨ν', b1, b2⟩ := la_i5 (μ.1 151 3).toNatClampNeg (μ.1 151 4).toNatClampNeg hL
  exact ⟨ν', b1.same (hm_trim_s h), b2⟩
