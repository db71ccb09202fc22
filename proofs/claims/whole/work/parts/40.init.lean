/-! The memory as the two constructors leave it. -/
theorem wm_nx1 : hm_nx wm_1 = 179 := by decide +kernel
theorem wm_nx2 : hm_nx wm_2 = 205 := by decide +kernel
theorem wm_kl : (List.range 141).all (fun i => hm_kd wm_2 (64 + i) == (hm_K0.getD i (0, 0)).1 && hm_ln wm_2 (64 + i) == (hm_K0.getD i (0, 0)).2) = true := by decide +kernel
theorem wm_rf : hm_R0.all (fun q => wm_2.2.2.1 q.1 q.2.1 == some q.2.2) = true := by decide +kernel
theorem wm_pg : (List.range 205).all (fun p => !(hm_kd wm_2 p == 5) || p == 151) = true := by decide +kernel
theorem wm_lw : [65, 77, 116, 159, 169].all (fun v => (List.range 6).all (fun i => wm_2.2.2.1 (v + 6) i == none)) = true := by decide +kernel
theorem wm_rl (q : Nat × Nat × Nat) (h : q ∈ hm_R0) : wm_2.2.2.1 q.1 q.2.1 = some q.2.2 := eq_of_beq (List.all_eq_true.mp wm_rf q h)
theorem wm_LX : hm_LX wm_2 := by
  refine ⟨_, rfl, Nat.le_of_eq wm_nx2.symm, fun i q hq => ?_, fun i q hq => wm_rl q (List.mem_of_getElem? hq), fun p hp => ?_, fun v i p hv hi he => ?_⟩
  · have hl := (List.getElem?_eq_some_iff.mp hq).1
    have h := List.all_eq_true.mp wm_kl i (List.mem_range.mpr hl)
    rw [Bool.and_eq_true] at h
    have e : hm_K0.getD i (0, 0) = q := by rw [List.getD_eq_getElem?_getD, hq]; rfl
    rw [e] at h
    exact ⟨eq_of_beq h.1, eq_of_beq h.2⟩
  · have h1 : p + 3 < hm_nx wm_2 := hp.2.1
    rw [wm_nx2] at h1
    have h := List.all_eq_true.mp wm_pg p (List.mem_range.mpr (by omega))
    have h5 : hm_kd wm_2 p = 5 := hp.2.2.1
    rw [h5] at h
    have e : p = 151 := by simpa using h
    subst e
    exact ⟨wm_rl (151, 0, 152) (by decide +kernel), wm_rl (151, 1, 153) (by decide +kernel), wm_rl (151, 2, 154) (by decide +kernel)⟩
  · have h := List.all_eq_true.mp wm_lw v (by rcases hv with rfl | rfl | rfl | rfl | rfl <;> decide)
    have h2 := List.all_eq_true.mp h i (List.mem_range.mpr hi)
    have h3 := eq_of_beq h2
    rw [h3] at he
    cases he
theorem wm_whole {P : hm_M → Prop} (hP : pu_all P) (h0 : P wm_2) {p : Program} {e : Env} {s : State} {m : MethodId} {below : List Frame} {meth : Method} {c : Code} (l : Launch) {b L : Nat} {xs : Nat → Int32} (hL : L ≤ 3072) (C0 : lw_At p s m meth c b L xs) : W p l e room_1 s m #[Value.ref b] below meth c s.heap [] 0 0 (lw_Z below #[Value.ref b] s) (entryFrame m ([Value.ref b] : List Value).toArray 4) := wm_start hP h0 wm_nx1 l hL C0
