section
/-! The tape emptied on both sides. -/
theorem tape_PP {μ μ' : hm_M} (h : PP μ) (h2 : μ'.2.2 = μ.2.2) (e1 : μ'.1 64 12 = 0) (e2 : μ'.1 179 13 = 0) (f : ∀ a j, ¬ (a = 64 ∧ j = 12) → ¬ (a = 179 ∧ j = 13) → μ'.1 a j = μ.1 a j) : PP μ' := by
  obtain ⟨a1, a2, a3, a4, a5, a6, a7⟩ := h
  refine ⟨PV.same a1 h2 (fun a j z => f a j (by unfold dV at z; omega) (by unfold dV at z; omega)), a2.same h2 (fun a j z => f a j (by unfold dI at z; omega) (by unfold dI at z; omega)), a3.same (fun a j z => f a j (by unfold dD at z; omega) (by unfold dD at z; omega)), a4.same (fun a j z => f a j (by unfold dS at z; omega) (by unfold dS at z; omega)), ⟨by rw [e1]; exact bd_n (n := 0) (by omega) (by omega), by rw [e1, e2], fun i hi => ?_⟩, a6.same (fun a j z => f a j (by unfold dM at z; omega) (by unfold dM at z; omega)), a7.same (fun j => f _ _ (by omega) (by omega))⟩
  rw [f _ _ (by omega) (by omega), f _ _ (by omega) (by omega)]
  exact a5.2.2 i hi
end
