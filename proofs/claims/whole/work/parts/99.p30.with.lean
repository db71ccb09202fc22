section
/-! What the table says of them. -/
variable {c : Nat → Nat → Nat} {n a b : Nat} {tb : tbl}
theorem cn_two (f g : Nat → Bool) : ∀ m, cn f m = cn (fun x => f x && g x) m + cn (fun x => f x && !g x) m
  | 0 => rfl
  | m + 1 => by
    have e : ∀ h : Nat → Bool, cn h (m + 1) = cn h m + (h m).toNat := fun h => by show cn h m + _ = _; cases h m <;> rfl
    rw [e, e, e, cn_two f g m]
    cases f m <;> cases g m <;> simp <;> omega
/-- what is added for those of whom M came before -/
def cwt (c : Nat → Nat → Nat) (n a b H : Nat) (tb : tbl) (M : Nat) : Nat := if M.testBit a = true ∧ M.testBit b = false then (if (tb M a).1 + c a b + (tb (wh n (M ||| 2 ^ b) b) b).1 = H then (tb M a).2 * (tb (wh n (M ||| 2 ^ b) b) b).2 else 0) else 0
theorem wh_lt {U l : Nat} (hn : 0 < n) (hl : l < n) : wh n U l < 2 ^ n := lt_two fun x hx => by
  rw [wh_bit] at hx
  simp only [Bool.or_eq_true, Bool.and_eq_true, decide_eq_true_eq] at hx
  omega
theorem with_cnt (hn : n ≤ 8) (h3 : 3 ≤ n) (hc : c9 c) (hs : ∀ a b, c a b = c b a) (h1 : ∀ S l, S < 2 ^ n → l < n → (tb S l).1 ≤ 1000000) (hV : INV false c n (2 ^ n) tb) (hab : a < b) (hb : b < n) (hlt : Hc false (cc8 c) n (n - 1) 1 0 < 1000000) : (rws n (n - 1) 1).countP (fun r => decide (pth false (cc8 c) 0 0 r = Hc false (cc8 c) n (n - 1) 1 0) && foll a b (0 :: r)) = smf (fun M => if M.testBit 0 = true then cwt c n a b (Hc false (cc8 c) n (n - 1) 1 0) tb M else 0) (2 ^ n) := by
  have hT := INV_TB hn hc h1 hV
  have e8 : cc8 c a b = c a b := if_pos ⟨by omega, by omega⟩
  have hI := cc8_I hc
  have hs8 := cc8_s hs
  have eA := (all_p n hn).2.2
  have p1 : 1 < 2 ^ n := by
    have : 2 ^ 2 ≤ 2 ^ n := Nat.pow_le_pow_right (by decide) (by omega)
    omega
  have w0 : ∀ U l, (wh n U l).testBit 0 = true := fun U l => by rw [wh_bit]; simp
  have wl : ∀ U l, (wh n U l).testBit l = true := fun U l => by rw [wh_bit]; simp
  have one : ∀ x, Nat.testBit 1 x = decide (x = 0) := fun x => by
    rw [show (1 : Nat) = 2 ^ 0 from rfl, Nat.testBit_two_pow]
    exact decide_eq_decide.mpr ⟨fun q => q.symm, fun q => q.symm⟩
  by_cases a0 : a = 0
  · rw [smf_one (x := 1), if_pos p1, if_pos (by decide)]
    · have hk : cn (free (1 ||| 2 ^ b)) n = n - 2 := by
        have := cn_del (f := free 1) (p := b) (by rw [free_1]; exact decide_eq_true (by omega)) (m := n) hb
        have e : cn (free (1 ||| 2 ^ b)) n = cn (fun y => free 1 y && decide (y ≠ b)) n := cn_cg fun y _ => free_or
        omega
      have m0 := met_0 (c := cc8 c) (n := n) (b := b) (k := n - 2) (by omega) hb (by omega) hlt
      have tH := TB_H hT hs8 hI (k := n - 2) (U := 1 ||| 2 ^ b) (l := b) (by rw [bit_or]; rfl) (by rw [bit_or]; simp) (by omega) hb hk
      have tH : (tb (wh n (1 ||| 2 ^ b) b) b).1 = _ := tH
      have t0 : tb 1 0 = (0, 1) := (hV 1 0 p1 (by omega)).2.1 rfl
      rw [a0] at e8 ⊢
      have ec : (rws n (n - 1) 1).countP (fun r => decide (pth false (cc8 c) 0 0 r = Hc false (cc8 c) n (n - 1) 1 0) && foll 0 b (0 :: r)) = (rws n (n - 1) 1).countP (fun r => decide (pth false (cc8 c) 0 0 r = Hc false (cc8 c) n (n - 1) 1 0) && decide (r.head? = some b)) := rfl
      rw [ec, m0]
      unfold cwt
      rw [if_pos (show Nat.testBit 1 0 = true ∧ Nat.testBit 1 b = false from ⟨by decide, by rw [one]; exact decide_eq_false (by omega)⟩), t0, tH, e8]
      show _ = if 0 + c 0 b + _ = _ then 1 * _ else 0
      rw [Nat.zero_add, Nat.one_mul]
      by_cases z : c 0 b + Hc false (cc8 c) n (n - 2) (1 ||| 2 ^ b) b = Hc false (cc8 c) n (n - 1) 1 0
      · rw [if_pos z, if_pos z, TB_W hn hc hs h1 hV (k := n - 2) (by rw [bit_or]; rfl) (by rw [bit_or]; simp) (by omega) hb hk (by omega)]
      · rw [if_neg z, if_neg z]
    · intro M hM hM1
      by_cases z : M.testBit 0 = true
      · rw [if_pos z]
        unfold cwt
        rw [a0]
        have := (hV M 0 hM (by omega)).2.2.1 z hM1 (fun x hx => absurd hx (Nat.not_lt_zero _))
        rw [this]
        split
        · rw [if_neg (show ¬ 1000000 + c 0 b + _ = _ by omega)]
        · rfl
      · rw [if_neg z]
  · have ef : ∀ r, foll a b (0 :: r) = foll a b r := fun r => if_neg fun e => a0 e.symm
    have hmem : ∀ r, r ∈ rws n (n - 1) 1 → r.Nodup ∧ ∀ x, x ∈ r → x < n := fun r hr => ⟨(mem_rws.mp hr).2.1, fun x hx => ((mem_rws.mp hr).2.2 x hx).1⟩
    rw [cnt_smf (g := mo a 1) (N := 2 ^ n) fun r hr => mo_lt p1 (hmem r hr).2]
    refine smf_cg fun M hM => ?_
    have e1 : (rws n (n - 1) 1).countP (fun r => (decide (pth false (cc8 c) 0 0 r = Hc false (cc8 c) n (n - 1) 1 0) && foll a b (0 :: r)) && decide (mo a 1 r = M)) = (rws n (n - 1) 1).countP (fun r => decide (pth false (cc8 c) 0 0 r = Hc false (cc8 c) n (n - 1) 1 0) && (foll a b r && decide (mo a 1 r = M))) := List.countP_congr fun r _ => by rw [ef, Bool.and_assoc]
    rw [e1]
    by_cases z : M.testBit 0 = true ∧ M.testBit a = true ∧ M.testBit b = false
    · obtain ⟨z0, za, zb'⟩ := z
      rw [if_pos z0]
      unfold cwt
      rw [if_pos ⟨za, zb'⟩]
      generalize hj : cn (free (wh n M a)) n = j
      generalize hk : cn (free (M ||| 2 ^ b)) n = k
      have hsum : (k + 2) + j = n - 1 := by
        have s1 := cn_two (free 1) (fun x => M.testBit x) n
        have s2 := cn_del (f := fun x => free 1 x && M.testBit x) (p := a) (by rw [free_1, za, decide_eq_true a0]; rfl) (m := n) (by omega)
        have s3 := cn_del (f := fun x => free 1 x && !M.testBit x) (p := b) (by rw [free_1, zb', decide_eq_true (by omega)]; rfl) (m := n) hb
        have s4 : cn (free (wh n M a)) n = cn (fun x => (free 1 x && M.testBit x) && decide (x ≠ a)) n := cn_cg fun x hx => by
          rw [free_1]
          unfold free
          rw [wh_bit, decide_eq_true hx]
          by_cases x0 : x = 0
          · rw [x0]; rfl
          · by_cases xa : x = a
            · rw [decide_eq_false x0, decide_eq_true xa]; simp [xa]
            · rw [decide_eq_false x0, decide_eq_false xa]; simp [xa]
        have s5 : cn (free (M ||| 2 ^ b)) n = cn (fun x => (free 1 x && !M.testBit x) && decide (x ≠ b)) n := cn_cg fun x _ => by
          rw [free_or, free_1]; rfl
        omega
      rw [met_cnt hI hs8 a0 (by omega) (by omega) hb z0 za zb' hM hj hsum hlt]
      have ew := wh_wh hM z0 (by omega) (show a < n by omega) za
      have tA := TB_H hT hs8 hI (k := j) (U := wh n M a) (l := a) (w0 _ _) (wl _ _) a0 (by omega) hj
      have tB := TB_H hT hs8 hI (k := k) (U := M ||| 2 ^ b) (l := b) (by rw [bit_or, z0]; rfl) (by rw [bit_or]; simp) (by omega) hb hk
      rw [ew] at tA
      have tA : (tb M a).1 = _ := tA
      have tB : (tb (wh n (M ||| 2 ^ b) b) b).1 = _ := tB
      rw [tA, tB, e8]
      by_cases y : Hc false (cc8 c) n j (wh n M a) a + c a b + Hc false (cc8 c) n k (M ||| 2 ^ b) b = Hc false (cc8 c) n (n - 1) 1 0
      · rw [if_pos y, if_pos y]
        have wA := TB_W hn hc hs h1 hV (k := j) (U := wh n M a) (l := a) (w0 _ _) (wl _ _) a0 (by omega) hj (by omega)
        have wB := TB_W hn hc hs h1 hV (k := k) (U := M ||| 2 ^ b) (l := b) (by rw [bit_or, z0]; rfl) (by rw [bit_or]; simp) (by omega) hb hk (by omega)
        rw [ew] at wA
        rw [wA, wB]
      · rw [if_neg y, if_neg y]
    · have e0 : (if M.testBit 0 = true then cwt c n a b (Hc false (cc8 c) n (n - 1) 1 0) tb M else 0) = 0 := by
        by_cases z0 : M.testBit 0 = true
        · rw [if_pos z0]
          unfold cwt
          rw [if_neg fun q => z ⟨z0, q⟩]
        · rw [if_neg z0]
      rw [e0, List.countP_eq_zero]
      intro r hr q
      simp only [Bool.and_eq_true, decide_eq_true_eq] at q
      obtain ⟨-, q1, q2⟩ := q
      refine z ⟨?_, ?_, ?_⟩
      · rw [← q2]; exact mo_bit (by decide)
      · rw [← q2]; exact mo_a q1
      · rw [← q2]; exact mo_b (by omega) (hmem r hr).1 (by rw [one]; exact decide_eq_false (by omega)) q1
end
