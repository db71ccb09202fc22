section
variable {m : hm_M} {c : Nat → Nat → Nat} {n a b H : Nat} {tb : tbl}
theorem smf_odd (g : Nat → Nat) : ∀ N, smf (fun M => if M.testBit 0 = true then g M else 0) (2 * N) = smf (fun i => g (2 * i + 1)) N
  | 0 => rfl
  | N + 1 => by
    show smf (fun M => if M.testBit 0 = true then g M else 0) (2 * N) + (if (2 * N).testBit 0 = true then g (2 * N) else 0) + (if (2 * N + 1).testBit 0 = true then g (2 * N + 1) else 0) = smf (fun i => g (2 * i + 1)) N + g (2 * N + 1)
    rw [smf_odd g N, if_neg (by rw [Nat.testBit_zero, decide_eq_true_eq]; omega), if_pos (by rw [Nat.testBit_zero, decide_eq_true_eq]; omega), Nat.add_zero]
theorem v_cw (hn : n ≤ 8) (h3 : 3 ≤ n) (h5 : m.1 145 5 = Int32.ofNat n) (hC : CT m n c) (hc : c9 c) (hM : MT m n tb) (hab : a < b) (hb : b < n) (hH : H < 1000000) : f_X0_countWith (Int32.ofNat a) (Int32.ofNat b) (Int32.ofNat H) m = some (Int32.ofNat (smf (fun M => if M.testBit 0 = true then cwt c n a b H tb M else 0) (2 ^ n))) := by
  have h256 := p256 hn
  have e2 : 2 ^ n = 2 * 2 ^ (n - 1) := by
    obtain ⟨k, rfl⟩ : ∃ k, n = k + 1 := ⟨n - 1, by omega⟩
    rw [Nat.pow_succ, Nat.mul_comm]; rfl
  have hp4 : 2 ^ 2 ≤ 2 ^ n := Nat.pow_le_pow_right (by decide) (by omega)
  have hcab := hc a b (by omega) (by omega)
  unfold f_X0_countWith
  rw [v_cB hn hC (by omega) hb (by omega), Option.bind_some]
  by_cases z : c a b = 1000000
  · have e0 : smf (fun M => if M.testBit 0 = true then cwt c n a b H tb M else 0) (2 ^ n) = 0 := by
      rw [smf_cg (g := fun _ => 0) fun M _ => ?_, smf_0]
      split
      · unfold cwt
        split
        · rw [if_neg (by omega)]
        · rfl
      · rfl
    obtain ⟨F, hF⟩ : ∃ F, hm_fu = F + 1 := ⟨hm_fu - 1, by have := fu_lt (n := 0) (by omega); omega⟩
    rw [hF, f_X0_countWith_L14, h5, n_shl n (by omega), if_neg (by rw [show (1 : Int32) = Int32.ofNat 1 from rfl, n_le (by omega) (by omega)]; omega), z, if_pos (show cm 1000000 = -1 from rfl), e0]
    rfl
  · have ecm : cm (c a b) = Int32.ofNat (c a b) := if_neg z
    have hcab : c a b ≤ 9 := hcab.resolve_right z
    rw [e2, smf_odd]
    generalize hg : (fun i => cwt c n a b H tb (2 * i + 1)) = g
    refine lo3 (L := f_X0_countWith_L14 (Int32.ofNat a) (Int32.ofNat b) (Int32.ofNat H) (cm (c a b)) (fun z8_5 μz8 => some z8_5)) (fun i y5 y6 m1 => y5 = Int32.ofNat (smf g i) ∧ y6 = Int32.ofNat (2 * i + 1) ∧ m1 = m) (fun o => o = _) (2 ^ (n - 1)) (fun i y5 y6 m1 hi hI => Or.inl ?_) (fun y5 y6 m1 hI F => ?_) (fu_lt (by omega)) ⟨rfl, rfl, rfl⟩
    · obtain ⟨rfl, rfl, rfl⟩ := hI
      refine ⟨_, _, m1, ⟨rfl, rfl, rfl⟩, fun F => ?_⟩
      have es : smf g (i + 1) = smf g i + cwt c n a b H tb (2 * i + 1) := by rw [← hg]; rfl
      rw [f_X0_countWith_L14, h5, n_shl n (by omega), if_neg (by rw [n_le (by omega) (by omega)]; omega), ecm, if_neg (show ¬ Int32.ofNat (c a b) = -1 by rw [i_eq, n_toInt (by omega)]; show ¬ ((c a b : Nat) : Int) = -1; omega)]
      simp only [f_X0_countWith_J115]
      rw [show Int32.ofNat (2 * i + 1) + 2 = Int32.ofNat (2 * (i + 1) + 1) from n_add _ 2, es]
      have hMlt : 2 * i + 1 < 2 ^ n := by omega
      generalize 2 * i + 1 = M at *
      unfold cwt
      rw [n_bit M (by omega) a (by omega), n_bit M (by omega) b (by omega)]
      by_cases y1 : M.testBit a = true
      · rw [y1, if_pos (show zb true = 1 from rfl)]
        by_cases y2 : M.testBit b = true
        · rw [y2, if_neg (show ¬ zb true = 0 by decide), if_neg (show ¬ (true = true ∧ true = false) by decide)]
          rfl
        · rw [Bool.not_eq_true] at y2
          have hMb : M ||| 2 ^ b < 2 ^ n := Nat.or_lt_two_pow hMlt (Nat.pow_lt_pow_right (by decide) hb)
          obtain ⟨w1, w2⟩ := v_wh (m := m1) (U := M ||| 2 ^ b) (l := b) hn h5 hMb hb
          rw [y2, if_pos (show zb false = 0 from rfl), if_pos (show true = true ∧ false = false from ⟨rfl, rfl⟩), n_shl b (by omega), n_or (by omega) (p2_lt (by omega)), w1, Option.bind_some, v_lT hn hM hMlt (by omega), Option.bind_some, v_lT hn hM w2 hb, Option.bind_some, n_add, n_add]
          generalize wh n (M ||| 2 ^ b) b = W at *
          have q1 := (hM M a hMlt (by omega)).2.2
          have q2 := (hM W b w2 hb).2.2
          by_cases y3 : (tb M a).1 + c a b + (tb W b).1 = H
          · rw [if_pos y3, if_pos (by rw [show t1 tb M a + c a b + t1 tb W b = H from y3]), show (8 : Int32) = Int32.ofNat 8 from rfl, n_mul, n_add, ld_n (by omega) (by decide), Option.bind_some, n_mul, n_add, ld_n (by omega) (by decide), Option.bind_some, (hM M a hMlt (by omega)).2.1, (hM W b w2 hb).2.1, n_mul, n_add]
          · rw [if_neg y3, if_neg (by rw [n_eq (by show (tb M a).1 + c a b + (tb W b).1 < 2147483648; omega) (by omega)]; exact y3)]
            rfl
      · rw [Bool.not_eq_true] at y1
        rw [y1, if_neg (show ¬ zb false = 1 by decide), if_neg (show ¬ (false = true ∧ M.testBit b = false) from fun q => by cases q.1)]
        rfl
    · obtain ⟨rfl, rfl, rfl⟩ := hI
      rw [f_X0_countWith_L14, h5, n_shl n (by omega), if_pos (by rw [n_le (by omega) (by omega)]; omega)]
end
