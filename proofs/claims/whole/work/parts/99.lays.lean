section
/-! The reference lays a text. -/
theorem v_lays {μ : hm_M} {g N : Nat} (hg : g ≤ 6) (hN : N ≤ 400) (h18 : μ.1 179 18 = Int32.ofNat N) : ∃ m, f_X10_lays (Int32.ofNat g) μ = some m ∧ m.2 = μ.2 ∧ (∀ a j, a ≠ 181 → m.1 a j = μ.1 a j) ∧ (∀ j, j ≠ 58 + g → ¬ (65 + 400 * g ≤ j ∧ j < 65 + 400 * g + N) → ¬ (2865 + 400 * g ≤ j ∧ j < 2865 + 400 * g + N) → m.1 181 j = μ.1 181 j) ∧ m.1 181 (58 + g) = Int32.ofNat N ∧ ∀ y, y < N → m.1 181 (65 + 400 * g + y) = μ.1 188 y ∧ m.1 181 (2865 + 400 * g + y) = μ.1 189 y := by
  unfold f_X10_lays
  rw [show (58 : Int32) = Int32.ofNat 58 from rfl, n_add, h18, sd_n (by omega) (by decide), Option.bind_some]
  refine lo2 (L := f_X10_lays_L15 (Int32.ofNat g) (fun μz7 => some μz7)) (fun k y m => y = Int32.ofNat k ∧ m.2 = μ.2 ∧ (∀ a j, a ≠ 181 → m.1 a j = μ.1 a j) ∧ (∀ j, j ≠ 58 + g → ¬ (65 + 400 * g ≤ j ∧ j < 65 + 400 * g + k) → ¬ (2865 + 400 * g ≤ j ∧ j < 2865 + 400 * g + k) → m.1 181 j = μ.1 181 j) ∧ m.1 181 (58 + g) = Int32.ofNat N ∧ ∀ y, y < k → m.1 181 (65 + 400 * g + y) = μ.1 188 y ∧ m.1 181 (2865 + 400 * g + y) = μ.1 189 y) (fun o => ∃ m, o = some m ∧ m.2 = μ.2 ∧ (∀ a j, a ≠ 181 → m.1 a j = μ.1 a j) ∧ (∀ j, j ≠ 58 + g → ¬ (65 + 400 * g ≤ j ∧ j < 65 + 400 * g + N) → ¬ (2865 + 400 * g ≤ j ∧ j < 2865 + 400 * g + N) → m.1 181 j = μ.1 181 j) ∧ m.1 181 (58 + g) = Int32.ofNat N ∧ ∀ y, y < N → m.1 181 (65 + 400 * g + y) = μ.1 188 y ∧ m.1 181 (2865 + 400 * g + y) = μ.1 189 y) N (fun k y m hk hI => Or.inl ?_) (fun y m hI F => ?_) (fu_lt (by omega)) ⟨rfl, rfl, fun a j z => wI_ne (by omega), fun j z _ _ => wI_ne (by omega), wI_at _ _ _ _, fun y hy => absurd hy (Nat.not_lt_zero y)⟩
  · obtain ⟨rfl, f1, f2, f3, f4, f5⟩ := hI
    refine ⟨_, hm_wI (hm_wI m 181 (65 + 400 * g + k) (μ.1 188 k)) 181 (2865 + 400 * g + k) (μ.1 189 k), ⟨rfl, f1, fun a j z => by rw [wI_ne (by omega), wI_ne (by omega)]; exact f2 a j z, fun j z z1 z2 => by rw [wI_ne (by omega), wI_ne (by omega)]; exact f3 j z (by omega) (by omega), by rw [wI_ne (by omega), wI_ne (by omega)]; exact f4, fun y hy => ?_⟩, fun F => ?_⟩
    · by_cases z : y = k
      · rw [z, wI_ne (by omega), wI_at, wI_at]
        exact ⟨rfl, rfl⟩
      · rw [wI_ne (by omega), wI_ne (by omega), wI_ne (by omega), wI_ne (by omega)]
        exact f5 y (by omega)
    · rw [f_X10_lays_L15, f2 179 18 (by omega), h18, if_neg (by rw [n_le (by omega) (by omega)]; omega), ld_n (by omega) (by decide), Option.bind_some, f2 188 k (by omega), show (65 : Int32) = Int32.ofNat 65 from rfl, show (400 : Int32) = Int32.ofNat 400 from rfl, n_mul, n_add, n_add, sd_n (by omega) (by decide), Option.bind_some, ld_n (by omega) (by decide), Option.bind_some, wI_ne (by omega), f2 189 k (by omega), show (2865 : Int32) = Int32.ofNat 2865 from rfl, n_add, n_add, sd_n (by omega) (by decide), Option.bind_some, show Int32.ofNat k + 1 = Int32.ofNat (k + 1) from n_add k 1]
  · obtain ⟨rfl, f1, f2, f3, f4, f5⟩ := hI
    refine ⟨m, ?_, f1, f2, f3, f4, f5⟩
    rw [f_X10_lays_L15, f2 179 18 (by omega), h18, if_pos (by rw [n_le (by omega) (by omega)]; omega)]
end
