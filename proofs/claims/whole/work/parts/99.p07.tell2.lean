section
variable {m : hm_M} {n : Nat} {tb : tbl} {w : Bool} {c : Nat → Nat → Nat}
theorem all_p : ∀ n, n ≤ 8 → pop (2 ^ n - 1) = n ∧ (1 ≤ n → lwt (2 ^ n - 1) = 0) ∧ cn (free 1) n = n - 1 := by decide +kernel
theorem wh_all {p : Nat} (hp : p < n) : wh n (1 ||| 2 ^ p) p = 2 ^ n - 1 := Nat.eq_of_testBit_eq fun x => by
  rw [wh_bit, show (1 : Nat) = 2 ^ 0 from rfl, bit_or, Nat.testBit_two_pow_sub_one, Nat.testBit_two_pow]
  by_cases z : x < n
  · rw [decide_eq_true z]
    by_cases y : x = p
    · simp [y]
    · by_cases y0 : x = 0
      · simp [y0]
      · have : ¬ 0 = x := fun q => y0 q.symm
        simp [y, y0, this]
  · rw [decide_eq_false z, decide_eq_false (show ¬ x = 0 by omega), decide_eq_false (show ¬ x = p by omega)]
    simp
theorem free_1 {p : Nat} : free 1 p = decide (p ≠ 0) := by
  unfold free
  rw [show (1 : Nat) = 2 ^ 0 from rfl, Nat.testBit_two_pow]
  by_cases z : p = 0
  · simp [z]
  · have : ¬ 0 = p := fun q => z q.symm
    simp [z, this]
theorem rd_all {t : Nat → Nat → Nat} {k : Nat} (hn : n ≤ 8) (hk : n = k + 2) (h3 : 3 ≤ n) (hc : c9 c) (hs : ∀ a b, c a b = c b a) (hT : TB w (cc8 c) n t) : rdc w c n t (2 ^ n - 1) = Hc w (cc8 c) n (k + 1) 1 0 := by
  obtain ⟨a1, a2, a3⟩ := all_p n hn
  unfold rdc
  rw [a1, if_pos h3, a2 (by omega)]
  show _ = mn _ n
  refine mn_cg fun p hp => ?_
  rw [free_1]
  by_cases z : p = 0
  · rw [if_neg (by omega), if_neg (by simp [z])]
  · rw [if_pos (by omega), if_pos (by simp [z])]
    have hf : free 1 p = true := by rw [free_1]; simp [z]
    have := TB_H hT (cc8_s hs) (cc8_I hc) (k := k) (U := 1 ||| 2 ^ p) (l := p) (by rw [bit_or]; rfl) (by rw [bit_or]; simp) z hp (by
      have := cn_del hf hp
      have e : cn (free (1 ||| 2 ^ p)) n = cn (fun y => free 1 y && decide (y ≠ p)) n := cn_cg fun y _ => free_or
      omega)
    rw [wh_all hp] at this
    rw [this, rop_cm, hs p 0, show c 0 p = cc8 c 0 p from (if_pos ⟨by omega, by omega⟩).symm]
/-- what the rows come to -/
def FB (w : Bool) (c : Nat → Nat → Nat) (n : Nat) : Nat × Option (List Nat) := if 3 ≤ n then (rws n (n - 1) 1).foldl (rUpd ori (pth w (cc8 c) 0 0)) (1000000, none) else (1000000, none)
def resP (w : Bool) (c : Nat → Nat → Nat) (n : Nat) (what : Int32) : Int32 := match FB w c n with
  | (_, none) => -1
  | (b, some g) => if what = 0 then Int32.ofNat b else Int32.ofNat ((0 :: g).getD (nat what - 1) 0)
theorem v_tell (hn : n ≤ 8) (h5 : m.1 145 5 = Int32.ofNat n) (hC : CT m n c) (hc : c9 c) (hs : ∀ a b, c a b = c b a) (what : Int32) : ∃ m1, f_X0_tellRow (zb w) what m = some (if 0 ≤ what.toInt ∧ what.toInt ≤ n then resP w c n what else -1, m1) ∧ m1.2 = m.2 ∧ ∀ a j, ¬ (a = 145 ∧ j = 6) → a ≠ 147 → a ≠ 148 → m1.1 a j = m.1 a j := by
  unfold f_X0_tellRow
  rw [h5]
  simp only [i_lt, i_le, n_toInt (show n < 2147483648 by omega), show (0 : Int32).toInt = 0 from rfl]
  by_cases z1 : what.toInt < 0
  · rw [if_pos z1, if_neg (by omega)]
    exact ⟨m, rfl, rfl, fun _ _ _ _ _ => rfl⟩
  · rw [if_neg z1]
    by_cases z2 : what.toInt ≤ n
    · rw [if_pos z2, if_pos ⟨by omega, z2⟩]
      obtain ⟨q, rfl, eq, lq⟩ := v_of (x := what) (by omega)
      have hq : q ≤ n := by omega
      obtain ⟨m1, tb, s1, s2, s3, s4, s5⟩ := v_solve (w := w) hn h5 hC hc
      have g5 : m1.1 145 5 = Int32.ofNat n := by rw [s4.2 _ _ (by omega) (by omega) (by omega)]; exact h5
      have gC : CT m1 n c := fun a b ha hb hab => by rw [s4.2 _ _ (by omega) (by omega) (by omega)]; exact hC a b ha hb hab
      have h256 := p256 hn
      have hp1 : 1 ≤ 2 ^ n := Nat.one_le_two_pow
      have hT := INV_TB hn hc (fun S l hS hl => (s2 S l hS hl).2.2) s3
      refine ⟨m1, ?_, s4⟩
      rw [s1, Option.bind_some, v_evb hn g5, Option.bind_some, v_lr hn g5 s5 gC hc s2 (by omega), Option.bind_some]
      unfold resP FB
      by_cases h3 : 3 ≤ n
      · obtain ⟨k, hk⟩ : ∃ k, n = k + 2 := ⟨n - 2, by omega⟩
        rw [if_pos h3, rd_all hn hk h3 hc hs hT, show n - 1 = k + 1 by omega]
        obtain ⟨r1, r2⟩ := ring_pure (w := w) (c := cc8 c) (n := n) (k := k) (cc8_s hs) (cc8_I hc) (by omega)
        have hI := Hc_I (w := w) (n := n) (cc8_I hc) (k + 1) 1 0
        rcases Nat.lt_or_ge (Hc w (cc8 c) n (k + 1) 1 0) 1000000 with hlt | hge
        · obtain ⟨g, g1, g2, g3, g4⟩ := r2 hlt
          rw [g4]
          show _ = some ((if Int32.ofNat q = 0 then Int32.ofNat (Hc w (cc8 c) n (k + 1) 1 0) else Int32.ofNat ((0 :: g).getD (nat (Int32.ofNat q) - 1) 0)), m1)
          -- the bound
          have hbd : Hc w (cc8 c) n (k + 1) 1 0 ≤ 3000 := by
            have e := rd_all hn hk h3 hc hs hT
            rw [← e] at hlt ⊢
            unfold rdc at hlt ⊢
            rw [(all_p n hn).1, if_pos h3] at hlt ⊢
            obtain ⟨l, hl, el⟩ := mn_ex hlt
            rw [← el] at hlt ⊢
            by_cases y : lwt (2 ^ n - 1) < l
            · rw [if_pos y] at hlt ⊢
              have h1 := (s3 (2 ^ n - 1) l (by omega) hl).2.2.2.2
              have t0 := (s2 (2 ^ n - 1) l (by omega) hl).2.2
              have t0 : t1 tb (2 ^ n - 1) l ≤ 1000000 := t0
              have h2 := hc l (lwt (2 ^ n - 1)) (by omega) (by rw [(all_p n hn).2.1 (by omega)]; omega)
              have c1 : c l (lwt (2 ^ n - 1)) ≤ 9 := by
                rcases h2 with h2 | h2
                · exact h2
                · rw [h2, rop_cm, rop_I t0] at hlt
                  omega
              have c2 : t1 tb (2 ^ n - 1) l ≤ 9 * (2 ^ n - 1) := by
                rcases Nat.lt_or_ge (t1 tb (2 ^ n - 1) l) 1000000 with y | y
                · exact h1 y
                · have : t1 tb (2 ^ n - 1) l = 1000000 := by omega
                  rw [this, rop_I (by omega)] at hlt
                  omega
              have := rup_r (w := w) t0 (show c l (lwt (2 ^ n - 1)) ≤ 1000000 by omega)
              omega
            · rw [if_neg y] at hlt
              omega
          have ecm : cm (Hc w (cc8 c) n (k + 1) 1 0) = Int32.ofNat (Hc w (cc8 c) n (k + 1) 1 0) := if_neg (by omega)
          rw [ecm]
          by_cases y0 : q = 0
          · rw [y0, if_pos (show Int32.ofNat 0 = 0 from rfl), if_pos (show Int32.ofNat 0 = 0 from rfl)]
          · have ne0 : ¬ Int32.ofNat q = 0 := by rw [show (0 : Int32) = Int32.ofNat 0 from rfl, n_eq (by omega) (by omega)]; exact y0
            rw [if_neg ne0, if_neg ne0, if_neg (show ¬ Int32.ofNat (Hc w (cc8 c) n (k + 1) 1 0) = -1 by rw [i_eq, n_toInt (by omega)]; show ¬ ((Hc w (cc8 c) n (k + 1) 1 0 : Nat) : Int) = -1; omega), show (1 : Int32) = Int32.ofNat 1 from rfl, n_sub (by omega), nat_n (by omega)]
            unfold f_X0_inRow
            rw [if_neg (n_nn (by omega)), g5, if_pos (by rw [n_lt (by omega) (by omega)]; omega)]
            have := v_inL hn g5 s5 gC hc hs s2 hT (show Hc w (cc8 c) n (k + 1) 1 0 < 900000 by omega) (fun z6_3 μz6 => some z6_3) (q - 1) (k + 1) 0 1 0 0 g hm_fu g1 (by omega) (fu_lt (by omega)) (by omega) (by
              have : 2 ^ 2 ≤ 2 ^ n := Nat.pow_le_pow_right (by decide) (by omega)
              omega) (by decide) (by omega) (by decide) (by rw [(all_p n hn).2.2]; omega) (Nat.zero_le _)
            rw [Nat.zero_add] at this
            rw [show f_X0_inRow_L25 (Int32.ofNat (Hc w (cc8 c) n (k + 1) 1 0)) (Int32.ofNat (q - 1)) (fun z6_3 μz6 => some z6_3) hm_fu 0 1 0 0 m1 = _ from this, Option.bind_some]
        · have hIe : Hc w (cc8 c) n (k + 1) 1 0 = 1000000 := by omega
          rw [r1 hIe, hIe]
          show (if Int32.ofNat q = 0 then some ((-1 : Int32), m1) else if (-1 : Int32) = -1 then some ((-1 : Int32), m1) else _) = _
          split
          · rfl
          · rw [if_pos rfl]
      · rw [if_neg h3]
        have e1 : rdc w c n (t1 tb) (2 ^ n - 1) = 1000000 := by
          unfold rdc
          rw [(all_p n hn).1, if_neg h3]
        rw [e1]
        show (if Int32.ofNat q = 0 then some ((-1 : Int32), m1) else if (-1 : Int32) = -1 then some ((-1 : Int32), m1) else _) = _
        split
        · rfl
        · rw [if_pos rfl]
    · rw [if_neg z2, if_neg (by omega)]
      exact ⟨m, rfl, rfl, fun _ _ _ _ _ => rfl⟩
end
