section
/-! Costs by who was seen next to whom. -/
/-- two who were seen, of the first some -/
def sq (lo hi : Nat → Nat) (is : Nat → Int32) (z : Bool) (a b i : Nat) : Bool := (decide (is i = 0) == z) && ((decide (lo i = a) && decide (hi i = b)) || (decide (lo i = b) && decide (hi i = a)))
def sqK (lo hi : Nat → Nat) (is : Nat → Int32) (z : Bool) (a b k : Nat) : Bool := anyb (sq lo hi is z a b) k
def cSk (lo hi : Nat → Nat) (is : Nat → Int32) (c : Nat → Nat → Nat) (k a b : Nat) : Nat := if sqK lo hi is true a b k = true then 1000000 else if sqK lo hi is false a b k = true then (if c a b = 1000000 then 1000000 else 0) else c a b
def aSk (lo hi : Nat → Nat) (is : Nat → Int32) : Nat → Nat
  | 0 => 0
  | k + 1 => if is k = 0 then aSk lo hi is k else aSk lo hi is k ||| 2 ^ (lo k * 8 + hi k)
variable {m : hm_M} {n : Nat} {lo hi : Nat → Nat} {is : Nat → Int32} {c : Nat → Nat → Nat}
theorem sqK_cm (z : Bool) (a b k : Nat) : sqK lo hi is z a b k = sqK lo hi is z b a k := by
  unfold sqK
  congr 1
  funext i
  unfold sq
  congr 1
  rw [Bool.or_comm]
theorem cSk_cm (hs : ∀ a b, c a b = c b a) (k a b : Nat) : cSk lo hi is c k a b = cSk lo hi is c k b a := by
  unfold cSk
  rw [sqK_cm true a b, sqK_cm false a b, hs a b]
theorem cSk_v (h : ∀ a b, c a b = 1 ∨ c a b = 1000000) (k a b : Nat) : cSk lo hi is c k a b = 0 ∨ cSk lo hi is c k a b = 1 ∨ cSk lo hi is c k a b = 1000000 := by
  unfold cSk
  rcases h a b with e | e
  · rw [e]
    split
    · exact Or.inr (Or.inr rfl)
    · split
      · exact Or.inl rfl
      · exact Or.inr (Or.inl rfl)
  · rw [e]
    split
    · exact Or.inr (Or.inr rfl)
    · split <;> exact Or.inr (Or.inr rfl)
theorem aSk_lt (hh : ∀ i, lo i < 7 ∧ hi i < 8) : ∀ k, aSk lo hi is k < 2 ^ 62
  | 0 => by show 0 < 2 ^ 62; decide
  | k + 1 => by
    have ih := aSk_lt hh k
    unfold aSk
    split
    · exact ih
    · have := hh k
      exact Nat.or_lt_two_pow ih (Nat.pow_lt_pow_right (by decide) (by omega))
theorem J_shl : ∀ p, p < 64 → (1 : Int64) <<< ((Int32.ofNat p).toInt64 &&& 63) = J64 (2 ^ p) := by decide +kernel
theorem sqK_s (z : Bool) (a b k : Nat) : sqK lo hi is z a b (k + 1) = (sqK lo hi is z a b k || sq lo hi is z a b k) := rfl
theorem v_dSeen {law : Option Nat} {K : Nat} {m3 : hm_M} (hn : n ≤ 8) (h5 : m3.1 145 5 = Int32.ofNat n) (hC : CT m3 n c) (hc1 : ∀ a b, c a b = 1 ∨ c a b = 1000000) (hs : ∀ a b, c a b = c b a) (hK : K ≤ 6) (h12 : m3.1 65 12 = Int32.ofNat K) (hlo : ∀ k, lo k < 7 ∧ hi k < 8) (hr : ∀ k, k < K → m3.1 72 k = Int32.ofNat (lo k) ∧ m3.1 73 k = Int32.ofNat (hi k) ∧ m3.1 74 k = is k ∧ lo k < hi k ∧ hi k < n) : ∃ m4, f_X0_drawSeen_L12 65 law (fun z13_3 μz13 => Option.bind (f_J13_bitCount_95d88 z13_3) fun x14 => some ((μz13.1 145 5) - x14, μz13)) hm_fu (0 : Int64) (0 : Int32) m3 = some (Int32.ofNat n - Int32.ofNat (pop64 (aSk lo hi is K)), m4) ∧ CT m4 n (cSk lo hi is c K) ∧ (m4.2 = m3.2 ∧ ∀ a j, a ≠ 146 → m4.1 a j = m3.1 a j) := by
  have hz : ∀ k, is k = 0 → ∀ a b, sq lo hi is true a b k = ((decide (lo k = a) && decide (hi k = b)) || (decide (lo k = b) && decide (hi k = a))) ∧ sq lo hi is false a b k = false := fun k h a b => by
    unfold sq
    rw [decide_eq_true h]
    exact ⟨rfl, rfl⟩
  have hnz : ∀ k, ¬ is k = 0 → ∀ a b, sq lo hi is false a b k = ((decide (lo k = a) && decide (hi k = b)) || (decide (lo k = b) && decide (hi k = a))) ∧ sq lo hi is true a b k = false := fun k h a b => by
    unfold sq
    rw [decide_eq_false h]
    exact ⟨rfl, rfl⟩
  refine lo3 (L := f_X0_drawSeen_L12 65 law (fun z13_3 μz13 => Option.bind (f_J13_bitCount_95d88 z13_3) fun x14 => some ((μz13.1 145 5) - x14, μz13))) (fun k y3 y5 m4 => y3 = J64 (aSk lo hi is k) ∧ y5 = Int32.ofNat k ∧ CT m4 n (cSk lo hi is c k) ∧ (m4.2 = m3.2 ∧ ∀ a j, a ≠ 146 → m4.1 a j = m3.1 a j)) (fun o => ∃ m4, o = some (Int32.ofNat n - Int32.ofNat (pop64 (aSk lo hi is K)), m4) ∧ CT m4 n (cSk lo hi is c K) ∧ (m4.2 = m3.2 ∧ ∀ a j, a ≠ 146 → m4.1 a j = m3.1 a j)) K (fun k y3 y5 m4 hk hI => Or.inl ?_) (fun y3 y5 m4 hI F => ?_) (fu_lt (by omega)) ⟨rfl, rfl, hC, rfl, fun _ _ _ => rfl⟩
  · obtain ⟨rfl, rfl, C4, f1, f2⟩ := hI
    obtain ⟨r1, r2, r3, r4, r5⟩ := hr k hk
    have hA := aSk_lt (is := is) hlo k
    have st : ∀ F, f_X0_drawSeen_L12 65 law (fun z13_3 μz13 => Option.bind (f_J13_bitCount_95d88 z13_3) fun x14 => some ((μz13.1 145 5) - x14, μz13)) (F + 1) (J64 (aSk lo hi is k)) (Int32.ofNat k) m4 = if is k = 0 then f_X0_drawSeen_L12 65 law (fun z13_3 μz13 => Option.bind (f_J13_bitCount_95d88 z13_3) fun x14 => some ((μz13.1 145 5) - x14, μz13)) F (J64 (aSk lo hi is k)) (Int32.ofNat (k + 1)) (hm_wI (hm_wI m4 146 (lo k * 8 + hi k) (-1)) 146 (hi k * 8 + lo k) (-1)) else f_X0_drawSeen_L12 65 law (fun z13_3 μz13 => Option.bind (f_J13_bitCount_95d88 z13_3) fun x14 => some ((μz13.1 145 5) - x14, μz13)) F (J64 (aSk lo hi is k ||| 2 ^ (lo k * 8 + hi k))) (Int32.ofNat (k + 1)) (hm_wI (hm_wI m4 146 (lo k * 8 + hi k) (if cm (cSk lo hi is c k (lo k) (hi k)) < 0 then cm (cSk lo hi is c k (lo k) (hi k)) else 0)) 146 (hi k * 8 + lo k) (if cm (cSk lo hi is c k (lo k) (hi k)) < 0 then cm (cSk lo hi is c k (lo k) (hi k)) else 0)) := fun F => by
      rw [f_X0_drawSeen_L12, f2 65 12 (by omega), h12, if_neg (by rw [n_le (by omega) (by omega)]; omega), ld_n (by omega) (by decide), Option.bind_some, f2 _ _ (by omega), r1, ld_n (by omega) (by decide), Option.bind_some, f2 _ _ (by omega), r2, ld_n (by omega) (by decide), Option.bind_some, f2 _ _ (by omega), r3]
      unfold f_X0_drawSeen_J94
      rw [show Int32.ofNat k + 1 = Int32.ofNat (k + 1) from n_add k 1]
      by_cases z : is k = 0
      · rw [if_pos z, if_pos z, v_setCost (by omega) (by omega), Option.bind_some]
      · rw [if_neg z, if_neg z, show Int32.ofNat (lo k) * (8 : Int32) + Int32.ofNat (hi k) = Int32.ofNat (lo k * 8 + hi k) by rw [show (8 : Int32) = Int32.ofNat 8 from rfl, n_mul, n_add], J_shl _ (by omega), J_or (by omega) (Nat.pow_lt_pow_right (by decide) (by omega)), Option.bind_some, v_cB hn C4 (by omega) r5 (by omega), Option.bind_some, v_setCost (by omega) (by omega), Option.bind_some]
    have put : ∀ x : Int32, x = cm (cSk lo hi is c (k + 1) (lo k) (hi k)) → CT (hm_wI (hm_wI m4 146 (lo k * 8 + hi k) x) 146 (hi k * 8 + lo k) x) n (cSk lo hi is c (k + 1)) := fun x hx a b ha hb hab => by
      by_cases e1 : a = lo k ∧ b = hi k
      · rw [e1.1, e1.2, wI_ne (by omega), wI_at, hx]
      · by_cases e2 : a = hi k ∧ b = lo k
        · rw [e2.1, e2.2, wI_at, hx, cSk_cm hs]
        · rw [wI_ne (by omega), wI_ne (by omega), C4 a b ha hb hab]
          have q : ∀ z, sq lo hi is z a b k = false := fun z => by
            unfold sq
            have : ((decide (lo k = a) && decide (hi k = b)) || (decide (lo k = b) && decide (hi k = a))) = false := by
              by_cases x1 : lo k = a <;> by_cases x2 : hi k = b <;> by_cases x3 : lo k = b <;> by_cases x4 : hi k = a <;> simp_all
            rw [this, Bool.and_false]
          unfold cSk
          rw [sqK_s, sqK_s, q, q, Bool.or_false, Bool.or_false]
    have own : ((decide (lo k = lo k) && decide (hi k = hi k)) || (decide (lo k = hi k) && decide (hi k = lo k))) = true := by simp
    have fr : ∀ x : Int32, (hm_wI (hm_wI m4 146 (lo k * 8 + hi k) x) 146 (hi k * 8 + lo k) x).2 = m3.2 ∧ ∀ a j, a ≠ 146 → (hm_wI (hm_wI m4 146 (lo k * 8 + hi k) x) 146 (hi k * 8 + lo k) x).1 a j = m3.1 a j := fun x => ⟨f1, fun a j z => by rw [wI_ne (by omega), wI_ne (by omega)]; exact f2 a j z⟩
    by_cases z : is k = 0
    · refine ⟨_, _, _, ⟨?_, rfl, put (-1) ?_, fr _⟩, fun F => by rw [st, if_pos z]⟩
      · show _ = J64 (if is k = 0 then _ else _)
        rw [if_pos z]
      · unfold cSk
        rw [sqK_s, (hz k z _ _).1, own, Bool.or_true, if_pos rfl]
        rfl
    · refine ⟨_, _, _, ⟨?_, rfl, put (if cm (cSk lo hi is c k (lo k) (hi k)) < 0 then cm (cSk lo hi is c k (lo k) (hi k)) else 0) ?_, fr _⟩, fun F => by rw [st, if_neg z]⟩
      · show _ = J64 (if is k = 0 then _ else _)
        rw [if_neg z]
      · unfold cSk
        rw [sqK_s, sqK_s, (hnz k z _ _).1, (hnz k z _ _).2, own, Bool.or_true, Bool.or_false]
        simp only [if_true]
        rcases hc1 (lo k) (hi k) with e | e <;> rw [e] <;> cases sqK lo hi is true (lo k) (hi k) k <;> cases sqK lo hi is false (lo k) (hi k) k <;> decide
  · obtain ⟨rfl, rfl, C4, f1, f2⟩ := hI
    refine ⟨m4, ?_, C4, f1, f2⟩
    rw [f_X0_drawSeen_L12, f2 65 12 (by omega), h12, if_pos (by rw [n_le (by omega) (by omega)]; omega), v_bc64 (aSk_lt hlo K), Option.bind_some, f2 _ _ (by omega), h5]
end
