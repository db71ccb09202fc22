section
/-! lights. -/
theorem sumr_le {g : Nat → Nat} {lo B : Nat} : ∀ k, (∀ i, i < k → g (lo + i) ≤ B) → sumr g lo k ≤ B * k
  | 0, _ => Nat.zero_le _
  | k + 1, h => by
    have h1 := sumr_le k fun i hi => h i (by omega)
    have h2 := h k (by omega)
    rw [sumr, Nat.mul_succ]
    omega
theorem s_all_le {L : List pc_K} {ρ : Nat → Int32} {n : Nat} (hR : bR ρ) (hn : n ≤ 8) : s_all L ρ n ≤ 576 := by
  have h1 : ∀ a, a < n → sumr (hl L ρ a) (a + 1) (n - (a + 1)) ≤ 72 := by
    intro a ha
    have := sumr_le (g := hl L ρ a) (lo := a + 1) (B := 9) (n - (a + 1)) fun i hi => by
      unfold hl
      split
      · exact s_lost_le hR (by omega) (by omega)
      · omega
    omega
  have := sumr_le (g := fun a => sumr (hl L ρ a) (a + 1) (n - (a + 1))) (lo := 0) (B := 72) n fun i hi => by
    rw [Nat.zero_add]
    exact h1 i hi
  unfold s_all
  omega
def hx (ρ : Nat → Int32) (k : Nat) : Nat := nat (ρ (16 + k))
def adg (ρ : Nat → Int32) : Nat → Bool
  | 0 => true
  | k + 1 => adg ρ k && decide (pop (hx ρ k) = 2)
theorem adg_f {ρ : Nat → Int32} {k : Nat} (hk : pop (hx ρ k) ≠ 2) : ∀ d, adg ρ (k + 1 + d) = false
  | 0 => by show (adg ρ k && decide _) = false; rw [decide_eq_false hk]; simp
  | d + 1 => by show (adg ρ (k + 1 + d) && _) = false; rw [adg_f hk d]; rfl
theorem v_many {μ : hm_M} {n : Nat} (h0 : μ.1 181 54 = Int32.ofNat n) : f_X10_many μ = some (Int32.ofNat n) := by
  unfold f_X10_many
  rw [show (54 : Int32) = Int32.ofNat 54 from rfl, ld_n (by decide) (by decide), h0]
  rfl
def grd (ρ : Nat → Int32) (n : Nat) : Bool := adg ρ n && (decide (3 ≤ n) && decide (spn (hx ρ) 255 n n 1 = 2 ^ n - 1))
theorem n_shm {n : Nat} (hn : n ≤ 8) : (1 : Int32) <<< (Int32.ofNat n &&& 31) - 1 = Int32.ofNat (2 ^ n - 1) := by
  rw [n_shl n (by omega), show (1 : Int32) = Int32.ofNat 1 from rfl, n_sub (Nat.one_le_two_pow)]
theorem v_goRound {μ : hm_M} {ρ : Nat → Int32} {v n : Nat} (hn : n ≤ 8) (h0 : μ.1 v 0 = Int32.ofNat n) (h4 : ∀ i, i < 8 → μ.1 (v + 4) i = ρ (16 + i) ∧ bd (ρ (16 + i)) 256) : f_X8_holdsGoRound v μ = some (zb (grd ρ n)) := by
  unfold f_X8_holdsGoRound
  refine lo2 (L := f_X8_holdsGoRound_L2 v _) (fun k y m => y = Int32.ofNat k ∧ m = μ ∧ adg ρ k = true) (fun o => o = some (zb (grd ρ n))) n (fun k y m hk hI => ?_) (fun y m hI F => ?_) (fu_lt (by omega)) ⟨rfl, rfl, rfl⟩
  · obtain ⟨rfl, rfl, ha⟩ := hI
    obtain ⟨b0, b1, b2⟩ := h4 k (by omega)
    have b2 : hx ρ k < 256 := b2
    have el : hm_ld m (v + 4) 8 (Int32.ofNat k) = some (Int32.ofNat (hx ρ k)) := by
      rw [ld_n (by omega) (by decide), b0]
      exact congrArg some b1
    have step : ∀ F, f_X8_holdsGoRound_L2 v (fun μz4 => (if (μz4.1 v 0) < (3 : Int32) then some (0 : Int32) else Option.bind (f_X8_comesTo v μz4) fun x5 => (if x5 = (((1 : Int32) <<< ((μz4.1 v 0) &&& 31)) - (1 : Int32)) then some (1 : Int32) else some (0 : Int32)))) (F + 1) (Int32.ofNat k) m = if pop (hx ρ k) = 2 then f_X8_holdsGoRound_L2 v (fun μz4 => (if (μz4.1 v 0) < (3 : Int32) then some (0 : Int32) else Option.bind (f_X8_comesTo v μz4) fun x5 => (if x5 = (((1 : Int32) <<< ((μz4.1 v 0) &&& 31)) - (1 : Int32)) then some (1 : Int32) else some (0 : Int32)))) F (Int32.ofNat (k + 1)) m else some 0 := by
      intro F
      have hp := pop_le (hx ρ k) b2
      rw [f_X8_holdsGoRound_L2, h0, if_neg (by rw [n_le (by omega) (by omega)]; omega), el, Option.bind_some, v_popJ _ b2, Option.bind_some, show Int32.ofNat k + 1 = Int32.ofNat (k + 1) from n_add k 1]
      by_cases z : pop (hx ρ k) = 2
      · rw [if_pos (by rw [z]; rfl), if_pos z]
      · rw [if_neg (by rw [show (2 : Int32) = Int32.ofNat 2 from rfl, n_eq (by omega) (by omega)]; exact z), if_neg z]
    by_cases z : pop (hx ρ k) = 2
    · exact Or.inl ⟨_, _, ⟨rfl, rfl, by show (adg ρ k && decide _) = true; rw [ha, decide_eq_true z]; rfl⟩, fun F => by rw [step F, if_pos z]⟩
    · refine Or.inr fun F => ?_
      rw [step F, if_neg z]
      have := adg_f z (n - (k + 1))
      rw [show k + 1 + (n - (k + 1)) = n by omega] at this
      unfold grd
      rw [this]
      rfl
  · obtain ⟨rfl, rfl, ha⟩ := hI
    rw [f_X8_holdsGoRound_L2, h0, if_pos (by rw [n_le (by omega) (by omega)]; omega)]
    unfold grd
    rw [ha]
    by_cases z : 3 ≤ n
    · rw [if_neg (by rw [show (3 : Int32) = Int32.ofNat 3 from rfl, n_lt (by omega) (by omega)]; omega), decide_eq_true z]
      have ec : f_X8_comesTo v m = some (Int32.ofNat (spn (hx ρ) 255 n n 1)) := by
        unfold f_X8_comesTo
        rw [h0, if_neg (by rw [show (0 : Int32) = Int32.ofNat 0 from rfl, n_eq (by omega) (by omega)]; omega), show f_X0_spread (v + 4) 8 (Int32.ofNat n) 1 (-1) m = _ from v_spread (m := 1) (nx := hx ρ) hn (by decide) (by decide) (fun k hk => ⟨by rw [(h4 k (by omega)).1]; exact (h4 k (by omega)).2.1, (h4 k (by omega)).2.2⟩) al_m1]
        rfl
      have hl := spn_lt (nx := hx ρ) (A := 255) (n := n) (by decide) (m := 1) (by decide) n
      have hl2 : 2 ^ n - 1 < 256 := by
        have : 2 ^ n ≤ 2 ^ 8 := Nat.pow_le_pow_right (by decide) hn
        omega
      rw [ec, Option.bind_some, n_shm hn]
      by_cases y : spn (hx ρ) 255 n n 1 = 2 ^ n - 1
      · rw [if_pos (by rw [y]), decide_eq_true y]; rfl
      · rw [if_neg (by rw [n_eq (by omega) (by omega)]; exact y), decide_eq_false y]; rfl
    · rw [if_pos (by rw [show (3 : Int32) = Int32.ofNat 3 from rfl, n_lt (by omega) (by omega)]; omega), decide_eq_false z]
      rfl
theorem v_laysHolds {μ : hm_M} {n : Nat} (hn : n ≤ 8) (h0 : μ.1 181 54 = Int32.ofNat n) : ∃ μ1, f_X10_laysHolds μ = some μ1 ∧ (μ1.2 = μ.2 ∧ ∀ a j, a ≠ 195 → μ1.1 a j = μ.1 a j) ∧ ∀ k, k < n → μ1.1 195 k = μ.1 181 (16 + k) := by
  unfold f_X10_laysHolds
  refine lo2 (L := f_X10_laysHolds_L2 (fun μz5 => some μz5)) (fun k y m => y = Int32.ofNat k ∧ (m.2 = μ.2 ∧ ∀ a j, a ≠ 195 → m.1 a j = μ.1 a j) ∧ ∀ i, i < k → m.1 195 i = μ.1 181 (16 + i)) (fun o => ∃ μ1, o = some μ1 ∧ (μ1.2 = μ.2 ∧ ∀ a j, a ≠ 195 → μ1.1 a j = μ.1 a j) ∧ ∀ k, k < n → μ1.1 195 k = μ.1 181 (16 + k)) n (fun k y m hk hI => Or.inl ?_) (fun y m hI F => ?_) (fu_lt (by omega)) ⟨rfl, ⟨rfl, fun _ _ _ => rfl⟩, fun i hi => absurd hi (Nat.not_lt_zero i)⟩
  · obtain ⟨rfl, ⟨f1, f2⟩, f3⟩ := hI
    refine ⟨_, hm_wI m 195 k (μ.1 181 (16 + k)), ⟨rfl, ⟨f1, fun a j z => by rw [wI_ne (by omega)]; exact f2 a j z⟩, fun i hi => ?_⟩, fun F => ?_⟩
    · by_cases z : i = k
      · subst z; rw [wI_at]
      · rw [wI_ne (by omega)]; exact f3 i (by omega)
    · rw [f_X10_laysHolds_L2, v_many (by rw [f2 181 54 (by decide)]; exact h0), Option.bind_some, if_neg (by rw [n_le (by omega) (by omega)]; omega), show (16 : Int32) = Int32.ofNat 16 from rfl, n_add, ld_n (by omega) (by decide), Option.bind_some, sd_n (by omega) (by decide), Option.bind_some, f2 181 _ (by decide), show Int32.ofNat k + 1 = Int32.ofNat (k + 1) from n_add k 1]
  · obtain ⟨rfl, f, f3⟩ := hI
    refine ⟨m, ?_, f, f3⟩
    rw [f_X10_laysHolds_L2, v_many (by rw [f.2 181 54 (by decide)]; exact h0), Option.bind_some, if_pos (by rw [n_le (by omega) (by omega)]; omega)]
theorem v_isLit {μ : hm_M} {L : List pc_K} {n : Nat} {ρ : Nat → Int32} (hρ : μ.1 181 = ρ) (hn : n ≤ 8) (h0 : μ.1 181 54 = Int32.ofNat n) (h4 : ∀ i, i < 8 → bd (μ.1 181 (16 + i)) 256) (h5 : ∀ k, k < n → ∀ i, (hx (μ.1 181) k).testBit i = true → i < n) (h6 : ∀ k, k < n → μ.1 195 k = μ.1 181 (16 + k)) (h7 : bd (μ.1 181 53) 100) (hR : bR (μ.1 181)) (hL : FL (μ.1 181) L) : ∃ μ1, fq μ μ1 ∧ f_X10_isLit μ = some (zb (grd ρ n && decide (s_all L ρ n ≤ nat (ρ 53))), μ1) := by
  subst hρ
  have key : ∀ b0 : Bool, b0 = decide (3 ≤ n) → ∃ μ1, fq μ μ1 ∧ f_X10_isLit_J13 (zb b0) μ = some (zb (grd (μ.1 181) n && decide (s_all L (μ.1 181) n ≤ nat (μ.1 181 53))), μ1) := by
    intro b0 hb0
    unfold f_X10_isLit_J13
    refine lo3 (L := f_X10_isLit_L16 _) (fun k x y m => x = zb (b0 && adg (μ.1 181) k) ∧ y = Int32.ofNat k ∧ m = μ) (fun o => ∃ μ1, fq μ μ1 ∧ o = some (zb (grd (μ.1 181) n && decide (s_all L (μ.1 181) n ≤ nat (μ.1 181 53))), μ1)) n (fun k x y m hk hI => Or.inl ?_) (fun x y m hI F => ?_) (fu_lt (by omega)) ⟨by simp [adg], rfl, rfl⟩
    · obtain ⟨rfl, rfl, rfl⟩ := hI
      refine ⟨_, _, m, ⟨rfl, rfl, rfl⟩, fun F => ?_⟩
      have b2 : hx (m.1 181) k < 256 := (h4 k (by omega)).2
      have b1 := (h4 k (by omega)).1
      have hp := pop_le _ b2
      have ek : Int32.ofNat k + 1 = Int32.ofNat (k + 1) := n_add k 1
      have el : hm_ld m 195 8 (Int32.ofNat k) = some (Int32.ofNat (hx (m.1 181) k)) := by
        rw [ld_n (by omega) (by decide), h6 k hk]
        exact congrArg some b1
      rw [f_X10_isLit_L16, v_many h0, Option.bind_some, if_neg (by rw [n_le (by omega) (by omega)]; omega)]
      unfold f_X10_isLit_J45 f_X10_isLit_J46
      rw [ek]
      show _ = f_X10_isLit_L16 _ F (zb (b0 && (adg (m.1 181) k && decide (pop (hx (m.1 181) k) = 2)))) _ m
      cases hb : (b0 && adg (m.1 181) k) with
      | false =>
        rw [if_pos (show zb false = 0 from rfl), ← Bool.and_assoc, hb]
        rfl
      | true =>
        rw [if_neg (show ¬ zb true = 0 by decide), el, Option.bind_some, v_pop10 _ b2, Option.bind_some, ← Bool.and_assoc, hb]
        by_cases z : pop (hx (m.1 181) k) = 2
        · rw [if_pos (by rw [z]; rfl), decide_eq_true z]; rfl
        · rw [if_neg (by rw [show (2 : Int32) = Int32.ofNat 2 from rfl, n_eq (by omega) (by omega)]; exact z), decide_eq_false z]; rfl
    · obtain ⟨rfl, rfl, rfl⟩ := hI
      have hrun : ∀ E, f_X10_isLit_L16 E (F + 1) (zb (b0 && adg (m.1 181) n)) (Int32.ofNat n) m = E (zb (b0 && adg (m.1 181) n)) m := by
        intro E
        rw [f_X10_isLit_L16, v_many h0, Option.bind_some, if_pos (by rw [n_le (by omega) (by omega)]; omega)]
      rw [hrun]
      unfold grd
      cases hb : (b0 && adg (m.1 181) n) with
      | false =>
        refine ⟨m, fq_refl m, ?_⟩
        rw [if_pos (show zb false = 0 from rfl)]
        have : (adg (m.1 181) n && (decide (3 ≤ n) && decide (spn (hx (m.1 181)) 255 n n 1 = 2 ^ n - 1))) = false := by
          rw [← hb0, ← Bool.and_assoc, Bool.and_comm (adg (m.1 181) n), hb]
          rfl
        rw [this]
        rfl
      | true =>
        rw [if_neg (show ¬ zb true = 0 by decide)]
        have h3 : 3 ≤ n := by
          rw [hb0] at hb
          rcases Nat.lt_or_ge n 3 with q | q
          · rw [decide_eq_false (by omega)] at hb; cases hb
          · exact q
        have hadg : adg (m.1 181) n = true := by
          cases e : adg (m.1 181) n with
          | true => rfl
          | false => rw [e] at hb; simp at hb
        rw [hadg, decide_eq_true h3]
        have ec : f_X10_comesTo 0 0 m = some (Int32.ofNat (spn (hx (m.1 181)) 255 n n 1)) := by
          have := v_comes10 (μ := m) (n := n) (p := 0) (A := 255) (nx := hx (m.1 181)) (w := 0) hn (by decide) (by decide) h0 (fun k hk => ⟨by rw [h6 k hk]; exact (h4 k (by omega)).1, (h4 k (by omega)).2⟩) al_m1'
          rw [spn_ge hn (by decide) h5 (fun i hi => by
            have : i = 0 := by
              rcases Nat.eq_zero_or_pos i with z | z
              · exact z
              · rw [show (2 : Nat) ^ 0 = 2 ^ 0 from rfl, Nat.testBit_two_pow_of_ne (by omega)] at hi; cases hi
            omega) 8 hn] at this
          exact this
        have hl := spn_lt (nx := hx (m.1 181)) (A := 255) (n := n) (by decide) (m := 1) (by decide) n
        have hl2 : 2 ^ n - 1 < 256 := by
          have : 2 ^ n ≤ 2 ^ 8 := Nat.pow_le_pow_right (by decide) hn
          omega
        rw [ec, Option.bind_some, v_many h0, Option.bind_some, n_shm hn]
        by_cases y : spn (hx (m.1 181)) 255 n n 1 = 2 ^ n - 1
        · obtain ⟨m1, f1, e1⟩ := v_lost10 hn h0 h4 hR hL
          refine ⟨m1, f1, ?_⟩
          rw [if_pos (by rw [y]), decide_eq_true y, e1, b2_some, show (53 : Int32) = Int32.ofNat 53 from rfl, ld_n (by decide) (by decide), Option.bind_some, fq_181 f1]
          have l7 := h7.2
          have hsm : s_all L (m.1 181) n < 2147483648 := by
            have := s_all_le (L := L) hR hn
            omega
          conv => lhs; rw [h7.1]
          by_cases q : s_all L (m.1 181) n ≤ nat (m.1 181 53)
          · rw [if_neg (by rw [n_lt (by omega) hsm]; omega), decide_eq_true q]; rfl
          · rw [if_pos (by rw [n_lt (by omega) hsm]; omega), decide_eq_false q]; rfl
        · refine ⟨m, fq_refl m, ?_⟩
          rw [if_neg (by rw [n_eq (by omega) (by omega)]; exact y), decide_eq_false y]
          rfl
  unfold f_X10_isLit
  rw [v_many h0, Option.bind_some]
  by_cases z : 3 ≤ n
  · rw [if_neg (by rw [show (3 : Int32) = Int32.ofNat 3 from rfl, n_lt (by omega) (by omega)]; omega)]
    exact key true (decide_eq_true z).symm
  · rw [if_pos (by rw [show (3 : Int32) = Int32.ofNat 3 from rfl, n_lt (by omega) (by omega)]; omega)]
    exact key false (decide_eq_false z).symm
theorem pu_lights (v1 : Int32) {μ : hm_M} {ν : hm_N} (hL : hm_LL ν μ) (h : PP μ) : ∃ (r : Int32) (μ1 μ2 : hm_M), f_X9_lights v1 μ = some (r, μ1) ∧ f_X10_lights v1 μ1 = some (r, μ2) ∧ PP μ2 := by
  obtain ⟨a1, -⟩ := id h
  obtain ⟨law, L, l1, l2, l3⟩ := lawF a1
  obtain ⟨R1, R2, R3, R4, R5, R6, R7⟩ := id a1.1
  obtain ⟨c1, c2, c3, ⟨c4, c5⟩, c6, c7⟩ := a1.2.2.2
  have hW := ln_109 hL
  have hJ : VJ μ 65 (μ.1 181) := a1.2.2.2.j
  have hn9 := R1.2
  have en := R1.1
  generalize hN : nat (μ.1 181 54) = n at en hn9
  have hn : n ≤ 8 := by omega
  have h0 : μ.1 65 0 = Int32.ofNat n := by rw [c1]; exact en
  have h4 : ∀ i, i < 8 → μ.1 (65 + 4) i = μ.1 181 (16 + i) ∧ bd (μ.1 181 (16 + i)) 256 := fun i hi => ⟨(c2 i hi).2.2.2, (R2 i hi).2.2.2⟩
  have h5 : ∀ k, k < n → ∀ i, (hx (μ.1 181) k).testBit i = true → i < n := fun k hk i hi => by
    have := R6.2 k i (by omega) hi
    rw [hN] at this
    exact this.2.1
  have hv : vO 65 := by unfold vO; omega
  have fin : ∀ (r : Int32) (m1 : hm_M), fj μ m1 → f_X9_lights v1 μ = some (r, m1) → (∀ m2, m2.1 181 = μ.1 181 → (∀ k, k < n → m2.1 195 k = μ.1 181 (16 + k)) → ∃ m3, fq m2 m3 ∧ (if v1 < (0 : Int32) ∨ (2 : Int32) < v1 then some ((-1 : Int32), m2) else (if v1 = (0 : Int32) then hm_b2 (f_X10_isLit m2) fun x8 μ9 => (if x8 = 0 then some ((0 : Int32), μ9) else some ((1 : Int32), μ9)) else (if v1 = (1 : Int32) then hm_b2 (f_X10_lostInAll m2) fun x6 μ7 => some (x6, μ7) else (if v1 = (2 : Int32) then Option.bind (f_X10_many m2) fun x4 => (if x4 = 0 then some ((0 : Int32), m2) else Option.bind (f_X10_comesTo (0 : Int32) (0 : Int32) m2) fun x5 => some (x5, m2)) else none)))) = some (r, m3)) → ∃ (r : Int32) (μ1 μ2 : hm_M), f_X9_lights v1 μ = some (r, μ1) ∧ f_X10_lights v1 μ1 = some (r, μ2) ∧ PP μ2 := by
    intro r m1 f1 e1 K
    have k1 := fj_181 f1
    obtain ⟨m2, g1, ⟨g2, g3⟩, g4⟩ := v_laysHolds (μ := m1) hn (by rw [k1]; exact en)
    have k2 : m2.1 181 = μ.1 181 := (funext fun j => g3 181 j (by decide)).trans k1
    obtain ⟨m3, f3, e3⟩ := K m2 k2 (fun k hk => by rw [g4 k hk, k1])
    refine ⟨r, m1, m3, e1, ?_, ?_⟩
    · unfold f_X10_lights
      rw [g1, Option.bind_some]
      exact e3
    · refine fs_PP h (fs_trans (fj_fs f1) (fs_trans ⟨congrArg (fun z => z.2) g2, fun a j z => g3 a j (by unfold scr at z; omega)⟩ (fq_fs f3)))
  by_cases y : v1 < (0 : Int32) ∨ (2 : Int32) < v1
  · exact fin (-1) μ (fj_refl μ) (by unfold f_X9_lights; rw [if_pos y]) fun m2 _ _ => ⟨m2, fq_refl m2, by rw [if_pos y]⟩
  · by_cases y0 : v1 = 0
    · have hg := v_goRound hn h0 h4
      cases hb : grd (μ.1 181) n with
      | false =>
        refine fin 0 μ (fj_refl μ) ?_ fun m2 q1 q2 => ?_
        · unfold f_X9_lights
          rw [if_neg y, if_pos y0, hg, Option.bind_some, hb, if_pos (show zb false = 0 from rfl)]
        · obtain ⟨m3, f3, e3⟩ := v_isLit (μ := m2) (L := L) q1 hn (by rw [q1]; exact en) (by rw [q1]; exact fun i hi => (h4 i hi).2) (by rw [q1]; exact h5) (by rw [q1]; exact q2) (by rw [q1]; exact R3.2.2.2) (by rw [q1]; exact a1.1.b) (by rw [q1]; exact l3)
          refine ⟨m3, f3, ?_⟩
          rw [if_neg y, if_pos y0, e3, b2_some, hb]
          rfl
      | true =>
        obtain ⟨m1, f1, e1⟩ := v_lost9 hn h0 h4 a1.1.b hJ hv l1 l2 hW
        have hsm := s_all_le (L := L) (ρ := μ.1 181) (n := n) a1.1.b hn
        have l53 := R3.2.2.2.2
        have e53 : m1.1 70 3 = μ.1 181 53 := by
          rw [f1.2 _ _ (by decide) (by decide) (by omega)]
          exact c3.2.2.2
        refine fin (zb (decide (s_all L (μ.1 181) n ≤ nat (μ.1 181 53)))) m1 f1 ?_ fun m2 q1 q2 => ?_
        · unfold f_X9_lights
          rw [if_neg y, if_pos y0, hg, Option.bind_some, hb, if_neg (show ¬ zb true = 0 by decide), e1, b2_some, show (3 : Int32) = Int32.ofNat 3 from rfl, ld_n (by decide) (by decide), Option.bind_some, e53]
          conv => lhs; rw [R3.2.2.2.1]
          by_cases q : s_all L (μ.1 181) n ≤ nat (μ.1 181 53)
          · rw [if_neg (by rw [n_lt (by omega) (by omega)]; omega), decide_eq_true q]; rfl
          · rw [if_pos (by rw [n_lt (by omega) (by omega)]; omega), decide_eq_false q]; rfl
        · obtain ⟨m3, f3, e3⟩ := v_isLit (μ := m2) (L := L) q1 hn (by rw [q1]; exact en) (by rw [q1]; exact fun i hi => (h4 i hi).2) (by rw [q1]; exact h5) (by rw [q1]; exact q2) (by rw [q1]; exact R3.2.2.2) (by rw [q1]; exact a1.1.b) (by rw [q1]; exact l3)
          refine ⟨m3, f3, ?_⟩
          rw [if_neg y, if_pos y0, e3, b2_some, hb, Bool.true_and]
          cases decide (s_all L (μ.1 181) n ≤ nat (μ.1 181 53)) <;> rfl
    · by_cases y1 : v1 = 1
      · obtain ⟨m1, f1, e1⟩ := v_lost9 hn h0 h4 a1.1.b hJ hv l1 l2 hW
        refine fin _ m1 f1 (by unfold f_X9_lights; rw [if_neg y, if_neg y0, if_pos y1, e1]; rfl) fun m2 q1 q2 => ?_
        obtain ⟨m3, f3, e3⟩ := v_lost10 (μ := m2) (L := L) hn (by rw [q1]; exact en) (by rw [q1]; exact fun i hi => (h4 i hi).2) (by rw [q1]; exact a1.1.b) (by rw [q1]; exact l3)
        rw [q1] at e3
        exact ⟨m3, f3, by rw [if_neg y, if_neg y0, if_pos y1, e3]; rfl⟩
      · have y2 : v1 = 2 := by
          simp only [i_lt, i_eq, show (0 : Int32).toInt = 0 from rfl, show (1 : Int32).toInt = 1 from rfl, show (2 : Int32).toInt = 2 from rfl] at *
          omega
        by_cases hz : n = 0
        · subst hz
          refine fin 0 μ (fj_refl μ) ?_ fun m2 q1 q2 => ⟨m2, fq_refl m2, ?_⟩
          · unfold f_X9_lights f_X8_comesTo
            rw [if_neg y, if_neg y0, if_neg y1, if_pos y2, h0, if_pos (show Int32.ofNat 0 = 0 from rfl)]
            rfl
          · rw [if_neg y, if_neg y0, if_neg y1, if_pos y2, v_many (by rw [q1]; exact en), Option.bind_some, if_pos (show Int32.ofNat 0 = 0 from rfl)]
        · refine fin (Int32.ofNat (spn (hx (μ.1 181)) 255 n n 1)) μ (fj_refl μ) ?_ fun m2 q1 q2 => ⟨m2, fq_refl m2, ?_⟩
          · unfold f_X9_lights f_X8_comesTo
            rw [if_neg y, if_neg y0, if_neg y1, if_pos y2, h0, if_neg (by rw [show (0 : Int32) = Int32.ofNat 0 from rfl, n_eq (by omega) (by omega)]; omega), show f_X0_spread (65 + 4) 8 (Int32.ofNat n) 1 (-1) μ = _ from v_spread (m := 1) (nx := hx (μ.1 181)) hn (by decide) (by decide) (fun k hk => ⟨by rw [(h4 k (by omega)).1]; exact (h4 k (by omega)).2.1, (h4 k (by omega)).2.2⟩) al_m1]
            rfl
          · have := v_comes10 (μ := m2) (n := n) (p := 0) (A := 255) (nx := hx (μ.1 181)) (w := 0) hn (by decide) (by decide) (by rw [q1]; exact en) (fun k hk => ⟨by rw [q2 k hk]; exact (h4 k (by omega)).2.1, (h4 k (by omega)).2.2⟩) al_m1'
            rw [spn_ge hn (by decide) h5 (fun i hi => by
              have : i = 0 := by
                rcases Nat.eq_zero_or_pos i with z | z
                · exact z
                · rw [show (2 : Nat) ^ 0 = 2 ^ 0 from rfl, Nat.testBit_two_pow_of_ne (by omega)] at hi; cases hi
              omega) 8 hn] at this
            rw [if_neg y, if_neg y0, if_neg y1, if_pos y2, v_many (by rw [q1]; exact en), Option.bind_some, if_neg (by rw [show (0 : Int32) = Int32.ofNat 0 from rfl, n_eq (by omega) (by omega)]; omega), show f_X10_comesTo 0 0 m2 = _ from this]
            rfl
end
