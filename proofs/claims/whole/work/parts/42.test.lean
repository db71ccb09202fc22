theorem tst_person {μ : hm_M} {n c r k : Nat} (hn : μ.1 181 54 = Int32.ofNat n) (h8 : n < 8) (hc : c < 25) (hr : r < 5) (hk : k < 4) : f_X10_person (Int32.ofNat c) (Int32.ofNat r) (Int32.ofNat k) μ = some (Int32.ofNat n, μ) := by
  simp (disch := omega) only [f_X10_person, f_X10_canBe, f_X10_lies, f_X10_many, f_X10_adds, f_X10_settled, f_X10_good, n_lit, i_lt, i_le, i_eq, n_toInt, if_pos, if_neg, Option.bind_some, b2_some, pI_some, ld_n, sd_n, n_add, wI_ne, wI_eq, hn, -Int32.reduceOfNat]
  trace_state
  sorry
