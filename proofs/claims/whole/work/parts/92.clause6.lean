section
/-! The component reads a clause. -/
variable {T : Nat → Nat} {n : Nat} {ord : Bool}
def fc (k : Nat) (μ m : hm_M) : Prop := m.2 = μ.2 ∧ ∀ a j, ¬ (a = 150 ∧ 4 ≤ j ∧ j ≤ 9) → ¬ (a = 151 ∧ (3 ≤ j ∧ j ≤ 5)) → a ≠ 152 → a ≠ 153 → ¬ (a = 154 ∧ 6 * k ≤ j ∧ j < 6 * k + 6) → m.1 a j = μ.1 a j
theorem fc_trans {k : Nat} {μ m m1 : hm_M} (h : fc k μ m) (g : fc k m m1) : fc k μ m1 := ⟨g.1.trans h.1, fun a j z z1 z2 z3 z4 => (g.2 a j z z1 z2 z3 z4).trans (h.2 a j z z1 z2 z3 z4)⟩
theorem fw_fc (k : Nat) {μ m : hm_M} (f : fw μ m) : fc k μ m := ⟨f.1, fun a j z z1 z2 z3 _ => f.2 a j z (by omega) z2 z3⟩
theorem fc_w {k p : Nat} {μ : hm_M} (hp : p < 6) (x : Int32) : fc k μ (hm_wI μ 154 (6 * k + p) x) := ⟨rfl, fun a j z z1 z2 z3 z4 => wI_ne (by omega)⟩
theorem QA.part {μ : hm_M} {i l d k p : Nat} {C : pc_C} (h : QA μ T n ord i l d C) (hk : k < 12) (hp : p < 6) (x : Int32) (h4 : μ.1 151 4 = Int32.ofNat k) : f_X5_setPart 151 (Int32.ofNat p) x μ = some (hm_wI μ 154 (6 * k + p) x) ∧ QA (hm_wI μ 154 (6 * k + p) x) T n ord i l d C ∧ (hm_wI μ 154 (6 * k + p) x).1 151 4 = Int32.ofNat k := by
  obtain ⟨h1, h2, ⟨a1, a2, a3, a4, a5⟩, ⟨b1, b2, b3⟩, c1, c2, c3⟩ := h
  refine ⟨?_, ⟨h1.keep (fun j _ => wI_ne (by omega)) (fun j => wI_ne (by omega)), h2, ⟨by rw [wI_ne (by omega)]; exact a1, by rw [wI_ne (by omega)]; exact a2, by rw [wI_ne (by omega)]; exact a3, a4, a5⟩, ⟨b1, b2, b3⟩, by rw [wI_ne (by omega)]; exact c1, by rw [wI_ne (by omega)]; exact c2, fun k x hk => by rw [wI_ne (by omega), wI_ne (by omega)]; exact c3 k x hk⟩, by rw [wI_ne (by omega)]; exact h4⟩
  unfold f_X5_setPart
  rw [h4, show (6 : Int32) = Int32.ofNat 6 from rfl, n_mul, n_add, Option.bind_some, if_neg (n_nn (by omega)), b3, if_neg (by rw [n_le (by omega) (by omega)]; omega), sd_n (by omega) (by decide), Option.bind_some, show k * 6 + p = 6 * k + p by omega]
/-- what reading a clause comes to: the parts p < 6 of row k that stand -/
def row6 (m : hm_M) (k : Nat) (q : Nat × Nat × Nat × Nat × Nat × Nat) : Prop := m.1 154 (6 * k) = Int32.ofNat q.1 ∧ m.1 154 (6 * k + 1) = Int32.ofNat q.2.1 ∧ m.1 154 (6 * k + 2) = Int32.ofNat q.2.2.1 ∧ m.1 154 (6 * k + 3) = Int32.ofNat q.2.2.2.1 ∧ m.1 154 (6 * k + 4) = Int32.ofNat q.2.2.2.2.1 ∧ m.1 154 (6 * k + 5) = Int32.ofNat q.2.2.2.2.2
def CE (T : Nat → Nat) (n : Nat) (ord : Bool) (k i0 : Nat) (C0 : pc_C) (μ : hm_M) (r : pc_R pc_K) (o : Option (Int32 × hm_M)) : Prop := ∃ x m, o = some (x, m) ∧ fc k μ m ∧ match r with
  | .error e => x = 0 ∧ e ≤ tmy T n ∧ AT m T n e
  | .ok (j, l1, C1, q) => x = 1 ∧ i0 < j ∧ (C0.length ≤ C1.length ∧ C1.length + i0 ≤ C0.length + j) ∧ QA m T n ord j l1 0 C1 ∧ m.1 151 4 = Int32.ofNat (k + 1) ∧ row6 m k q.1
/-- a place that has failed: the rest writes rows only -/
theorem c6_bad {m μ0 : hm_M} {k e i0 : Nat} {C0 : pc_C} (hk : k < 12) (h : AT m T n e) (he : e ≤ tmy T n) (f : fc k μ0 m) (h4 : m.1 151 4 = Int32.ofNat k) (hl : hm_ln m 154 = 72) : CE T n ord k i0 C0 μ0 (.error e) (f_X6_readClause_J199 m) := by
  unfold f_X6_readClause_J199 f_X6_readClause_J200
  have sp : f_X5_setPart 151 4 (m.1 151 3) m = some (hm_wI m 154 (6 * k + 4) (m.1 151 3)) := by
    unfold f_X5_setPart
    rw [h4, show (6 : Int32) = Int32.ofNat 6 from rfl, show (4 : Int32) = Int32.ofNat 4 from rfl, n_mul, n_add, Option.bind_some, if_neg (n_nn (by omega)), hl, if_neg (by rw [n_le (by omega) (by omega)]; omega), sd_n (by omega) (by decide), Option.bind_some, show k * 6 + 4 = 6 * k + 4 by omega]
  rw [sp, Option.bind_some, wI_ne (by omega), h4, show Int32.ofNat k + 1 = Int32.ofNat (k + 1) from n_add k 1, pI_some, Option.bind_some]
  refine ⟨0, _, rfl, fc_trans f (fc_trans (fc_w (p := 4) (by omega) _) ⟨rfl, fun a j z z1 z2 z3 z4 => wI_ne (by omega)⟩), rfl, he, h.keep (fun j _ => ?_) (fun j => ?_)⟩
  · rw [wI_ne (by omega), wI_ne (by omega)]
  · rw [wI_ne (by omega), wI_ne (by omega)]
end
