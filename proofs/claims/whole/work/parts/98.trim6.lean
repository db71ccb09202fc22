section
/-! The law's own program. -/
theorem v_trim {μ : hm_M} {n1 n2 : Nat} (h1 : n1 ≤ 400) (h2 : n2 ≤ 12) (e3 : μ.1 151 3 = Int32.ofNat n1) (e4 : μ.1 151 4 = Int32.ofNat n2) (e5 : μ.1 151 5 = 0 ∨ μ.1 151 5 = 1) (l1 : hm_ln μ 152 = 400) (l2 : hm_ln μ 153 = 400) (l3 : hm_ln μ 154 = 72) (hx : 205 ≤ hm_nx μ) : ∃ m, hm_tm μ = some m ∧ m.2 = (hm_i5 (hm_al μ 5 0) (hm_nx μ) n1 n2).2 ∧ (∀ a j, a < hm_nx μ → m.1 a j = μ.1 a j) ∧ (m.1 (hm_nx μ) 3 = Int32.ofNat n1 ∧ m.1 (hm_nx μ) 4 = Int32.ofNat n2) ∧ (∀ j, j < n1 → m.1 (hm_nx μ + 1) j = μ.1 152 j ∧ m.1 (hm_nx μ + 2) j = μ.1 153 j) ∧ ∀ j, j < 6 * n2 → m.1 (hm_nx μ + 3) j = μ.1 154 j := by
  unfold hm_tm
  have c3 : (μ.1 151 3).toNatClampNeg = n1 := by rw [e3]; exact n_cl (by omega)
  have c4 : (μ.1 151 4).toNatClampNeg = n2 := by rw [e4]; exact n_cl (by omega)
  have g : ¬ (μ.1 151 3 < 0 ∨ 400 < (μ.1 151 3).toNatClampNeg ∨ μ.1 151 4 < 0 ∨ 12 < (μ.1 151 4).toNatClampNeg) := by
    rw [c3, c4, e3, e4]
    rintro (z | z | z | z)
    · exact n_nn (by omega) z
    · omega
    · exact n_nn (by omega) z
    · omega
  rw [if_neg g, c3, c4]
  unfold f_X5_trimmed
  have old : ∀ a j, a < hm_nx μ → (hm_i5 (hm_al μ 5 0) (hm_nx μ) n1 n2).1 a j = μ.1 a j := fun a j h => by rw [hm_i5_I μ n1 n2 h]
  generalize hI : hm_i5 (hm_al μ 5 0) (hm_nx μ) n1 n2 = mI at old
  generalize hm_nx μ = p at hx old ⊢
  rw [show (151 + 1) = 152 from rfl, show (151 + 2) = 153 from rfl, show (151 + 3) = 154 from rfl, l1, l2, l3, show (0 : Int32) = Int32.ofNat 0 from rfl, show nI n1 = Int32.ofNat n1 from rfl, cp_n (by omega) (by omega) (by omega) (by omega), Option.bind_some, cpm_ne (by omega), old 151 3 (by omega), e3, cp_n (by omega) (by omega) (by omega) (by omega), Option.bind_some, cpm_ne (by omega), cpm_ne (by omega), old 151 4 (by omega), e4, show (6 : Int32) = Int32.ofNat 6 from rfl, n_mul, cp_n (by omega) (by omega) (by omega) (by omega), Option.bind_some, cpm_ne (by omega), cpm_ne (by omega), cpm_ne (by omega), old 151 3 (by omega), e3, pI_some, Option.bind_some, wI_ne (by omega), cpm_ne (by omega), cpm_ne (by omega), cpm_ne (by omega), old 151 4 (by omega), e4, pI_some, Option.bind_some, wI_ne (by omega), wI_ne (by omega), cpm_ne (by omega), cpm_ne (by omega), cpm_ne (by omega), old 151 5 (by omega)]
  unfold hm_pZ
  rw [if_pos e5]
  refine ⟨_, rfl, rfl, fun a j ha => ?_, ⟨?_, ?_⟩, fun j hj => ⟨?_, ?_⟩, fun j hj => ?_⟩
  · rw [wI_ne (by omega), wI_ne (by omega), wI_ne (by omega), cpm_ne (by omega), cpm_ne (by omega), cpm_ne (by omega)]
    exact old a j ha
  · rw [wI_ne (by omega), wI_ne (by omega), wI_at]
  · rw [wI_ne (by omega), wI_at]
  · rw [wI_ne (by omega), wI_ne (by omega), wI_ne (by omega), cpm_ne (by omega), cpm_ne (by omega), cpm_eq rfl (by omega) (by omega), old 152 _ (by omega), show 0 + (j - 0) = j by omega]
  · rw [wI_ne (by omega), wI_ne (by omega), wI_ne (by omega), cpm_ne (by omega), cpm_eq rfl (by omega) (by omega), cpm_ne (by omega), old 153 _ (by omega), show 0 + (j - 0) = j by omega]
  · rw [wI_ne (by omega), wI_ne (by omega), wI_ne (by omega), cpm_eq rfl (by omega) (by omega), cpm_ne (by omega), cpm_ne (by omega), old 154 _ (by omega), show 0 + (j - 0) = j by omega]
end
