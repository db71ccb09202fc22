/-! The memory as the two constructors leave it. -/
theorem wm_nx1 : hm_nx wm_1 = 179 := by decide +kernel
theorem wm_nx2 : hm_nx wm_2 = 205 := by decide +kernel
theorem wm_kl : (List.range 141).all (fun i => hm_kd wm_2 (64 + i) == (hm_K0.getD i (0, 0)).1 && hm_ln wm_2 (64 + i) == (hm_K0.getD i (0, 0)).2) = true := by decide +kernel
theorem wm_rf : hm_R0.all (fun q => wm_2.2.2.1 q.1 q.2.1 == some q.2.2) = true := by decide +kernel
theorem wm_pg : (List.range 205).all (fun p => !(hm_kd wm_2 p == 5) || p == 151) = true := by decide +kernel
theorem wm_lw : [65, 77, 116, 159, 169].all (fun v => (List.range 6).all (fun i => wm_2.2.2.1 (v + 6) i == none)) = true := by decide +kernel
theorem wv_66 (k : Nat) : wm_2.1 66 k = 0 := rfl
theorem wv_181 (k : Nat) : wm_2.1 181 k = if k = 57 then -1 else if k = 53 then 50 else if k = 51 then 1 else 0 := rfl
