section
/-! What the two constructors leave. -/
theorem wz_1 : (List.range 58).all (fun j => decide (wm_2.1 181 j = if j = 24 then wm_2.1 181 24 else if j = 51 then wm_2.1 181 51 else if j = 52 then wm_2.1 181 52 else if j = 53 then wm_2.1 181 53 else if j = 57 then -1 else 0)) = true := by decide +kernel
theorem wz_2 : (List.range 8).all (fun i => decide (wm_2.1 66 i = 0 ∧ wm_2.1 67 i = 0 ∧ wm_2.1 68 i = 0 ∧ wm_2.1 69 i = 0)) = true := by decide +kernel
theorem wz_3 : (wm_2.1 70 0 = wm_2.1 181 24 ∧ wm_2.1 70 1 = wm_2.1 181 51 ∧ wm_2.1 70 2 = wm_2.1 181 52 ∧ wm_2.1 70 3 = wm_2.1 181 53) ∧ wm_2.1 65 12 = 0 ∧ wm_2.1 65 7 = 0 ∧ wm_2.1 65 8 = -1 ∧ wm_2.1 65 0 = 0 := by decide +kernel
theorem wz_4 : (wm_2.1 181 24 = Int32.ofNat (nat (wm_2.1 181 24)) ∧ nat (wm_2.1 181 24) < 1000) ∧ (wm_2.1 181 51 = Int32.ofNat (nat (wm_2.1 181 51)) ∧ nat (wm_2.1 181 51) < 11) ∧ (wm_2.1 181 52 = Int32.ofNat (nat (wm_2.1 181 52)) ∧ nat (wm_2.1 181 52) < 10) ∧ (wm_2.1 181 53 = Int32.ofNat (nat (wm_2.1 181 53)) ∧ nat (wm_2.1 181 53) < 100) := by decide +kernel
theorem wz_5 : wm_2.1 76 0 = 0 ∧ wm_2.1 183 0 = 0 ∧ wm_2.1 76 1 = 0 ∧ wm_2.1 183 1 = 0 := by decide +kernel
theorem wz_6 : wm_2.1 64 4 = 0 ∧ wm_2.1 179 54 = -1 := by decide +kernel
theorem wz_7 : wm_2.1 87 1 = 0 ∧ wm_2.1 87 2 = 0 ∧ wm_2.1 179 33 = 0 := by decide +kernel
theorem wz_8 : wm_2.1 64 12 = 0 ∧ wm_2.1 179 13 = 0 := by decide +kernel
theorem wz_9 : (List.range 400).all (fun i => decide (wm_2.1 156 i = 0 ∧ wm_2.1 186 i = 0)) = true := by decide +kernel
theorem wz_10 : (wm_2.1 64 13 = wm_2.1 179 14 ∧ wm_2.1 64 14 = wm_2.1 179 46 ∧ wm_2.1 64 15 = wm_2.1 179 6 ∧ wm_2.1 64 16 = wm_2.1 179 0) ∧ wm_2.1 157 0 = wm_2.1 180 1 ∧ wm_2.1 157 1 = wm_2.1 180 2 ∧ wm_2.1 157 2 = wm_2.1 180 3 ∧ wm_2.1 157 3 = wm_2.1 180 5 ∧ wm_2.1 157 4 = wm_2.1 180 6 := by decide +kernel
theorem wz_11 : (List.range 143).all (fun i => decide (wm_2.1 185 i = Int32.ofNat (wbytes.getD i 0))) = true := by decide +kernel
theorem bd_0 {x : Int32} {n : Nat} (h : x = 0) (hn : 0 < n) : bd x n := by
  rw [h]
  exact ⟨rfl, hn⟩
theorem wm_PP : PP wm_2 := by
  have z1 : ∀ j, j < 58 → wm_2.1 181 j = if j = 24 then wm_2.1 181 24 else if j = 51 then wm_2.1 181 51 else if j = 52 then wm_2.1 181 52 else if j = 53 then wm_2.1 181 53 else if j = 57 then -1 else 0 := fun j hj => of_decide_eq_true (List.all_eq_true.mp wz_1 j (List.mem_range.mpr hj))
  have z0 : ∀ j, j < 57 → j ≠ 24 → j ≠ 51 → j ≠ 52 → j ≠ 53 → wm_2.1 181 j = 0 := fun j hj h1 h2 h3 h4 => by
    rw [z1 j (by omega), if_neg h1, if_neg h2, if_neg h3, if_neg h4, if_neg (by omega)]
  have z2 : ∀ i, i < 8 → wm_2.1 66 i = 0 ∧ wm_2.1 67 i = 0 ∧ wm_2.1 68 i = 0 ∧ wm_2.1 69 i = 0 := fun i hi => of_decide_eq_true (List.all_eq_true.mp wz_2 i (List.mem_range.mpr hi))
  have z9 : ∀ i, i < 400 → wm_2.1 156 i = 0 ∧ wm_2.1 186 i = 0 := fun i hi => of_decide_eq_true (List.all_eq_true.mp wz_9 i (List.mem_range.mpr hi))
  have n0 : nat 0 = 0 := rfl
  refine ⟨⟨⟨bd_0 (z0 54 (by omega) (by omega) (by omega) (by omega) (by omega)) (by omega), fun i hi => ⟨bd_0 (z0 i (by omega) (by omega) (by omega) (by omega) (by omega)) (by omega), bd_0 (z0 (8 + i) (by omega) (by omega) (by omega) (by omega) (by omega)) (by omega), bd_0 (z0 (25 + i) (by omega) (by omega) (by omega) (by omega) (by omega)) (by omega), bd_0 (z0 (16 + i) (by omega) (by omega) (by omega) (by omega) (by omega)) (by omega)⟩, wz_4, bd_0 (z0 55 (by omega) (by omega) (by omega) (by omega) (by omega)) (by omega), bd_0 (z0 56 (by omega) (by omega) (by omega) (by omega) (by omega)) (by omega), ⟨fun p q hp hq => ?_, fun p q hp h => ?_⟩, fun k hk => ?_⟩, Or.inl ?_, ?_, ?_, fun i hi => ⟨?_, ?_, ?_, ?_⟩, wz_3.1, ⟨?_, ?_⟩, fun k hk => ?_, fun k hk => ?_⟩, fun k hk => ?_, Or.inl wz_6, ⟨bd_0 wz_7.1 (by omega), bd_0 wz_7.2.1 (by omega), wz_7.2.1.trans wz_7.2.2.symm, fun i hi => ?_⟩, ⟨bd_0 wz_8.1 (by omega), wz_8.1.trans wz_8.2.symm, fun i hi => ⟨bd_0 (z9 i hi).1 (by omega), ?_⟩⟩, wz_10, fun i hi => of_decide_eq_true (List.all_eq_true.mp wz_11 i (List.mem_range.mpr hi))⟩
  · rw [z0 (16 + p) (by omega) (by omega) (by omega) (by omega) (by omega), z0 (16 + q) (by omega) (by omega) (by omega) (by omega) (by omega), n0, Nat.zero_testBit, Nat.zero_testBit]
  · rw [z0 (16 + p) (by omega) (by omega) (by omega) (by omega) (by omega), n0, Nat.zero_testBit] at h
    cases h
  · rw [z0 55 (by omega) (by omega) (by omega) (by omega) (by omega)] at hk
    exact absurd hk (Nat.not_lt_zero _)
  · rw [z1 57 (by omega)]; rfl
  · rw [z1 57 (by omega)]; exact wz_3.2.2.2.1
  · rw [z0 54 (by omega) (by omega) (by omega) (by omega) (by omega)]; exact wz_3.2.2.2.2
  · rw [z0 i (by omega) (by omega) (by omega) (by omega) (by omega)]; exact (z2 i hi).1
  · rw [z0 (8 + i) (by omega) (by omega) (by omega) (by omega) (by omega)]; exact (z2 i hi).2.1
  · rw [z0 (25 + i) (by omega) (by omega) (by omega) (by omega) (by omega)]; exact (z2 i hi).2.2.1
  · rw [z0 (16 + i) (by omega) (by omega) (by omega) (by omega) (by omega)]; exact (z2 i hi).2.2.2
  · rw [z0 55 (by omega) (by omega) (by omega) (by omega) (by omega)]; exact wz_3.2.1
  · rw [z0 56 (by omega) (by omega) (by omega) (by omega) (by omega)]; exact wz_3.2.2.1
  · rw [z0 55 (by omega) (by omega) (by omega) (by omega) (by omega)] at hk
    exact absurd hk (Nat.not_lt_zero _)
  · rw [z0 56 (by omega) (by omega) (by omega) (by omega) (by omega)] at hk
    exact absurd hk (Nat.not_lt_zero _)
  · have : k = 0 ∨ k = 1 := by omega
    rcases this with rfl | rfl
    · exact ⟨wz_5.1.trans wz_5.2.1.symm, Or.inl wz_5.1⟩
    · exact ⟨wz_5.2.2.1.trans wz_5.2.2.2.symm, Or.inl wz_5.2.2.1⟩
  · rw [wz_7.2.1] at hi
    exact absurd hi (Nat.not_lt_zero _)
  · rw [(z9 i hi).1, (z9 i hi).2]; rfl
theorem wm_PQ : PQ wm_2 := ⟨wm_LX, wm_PP⟩
end
