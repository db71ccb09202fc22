section
/-! A day; what a deed comes to. -/
theorem mx_9 : ∀ r, r < 5 → ∀ t, t < 5 → (if (0 : Int32) < (Int32.ofNat r - Int32.ofNat t) then (Int32.ofNat r - Int32.ofNat t) else 0) = Int32.ofNat (r - t) := by decide +kernel
theorem mx_10 : ∀ r, r < 5 → ∀ t, t < 5 → f_X10_greater 0 (Int32.ofNat r - Int32.ofNat t) = some (Int32.ofNat (r - t)) := by decide +kernel
section
variable {μ : hm_M} {ρ : Nat → Int32} {L : List pc_K} {law : Option Nat} {v n : Nat}
theorem x1_pass (h : VD μ v ρ) (hD : DW ρ) (hn : nat (ρ 54) = n) (hv : vO v) (hv2 : v + 9 < 205) (l1 : f_X8_lawInForce v μ = some law) (hL : LJ μ law L) (hW : hm_ln μ 109 = 8) : ∃ μ1, fd v μ μ1 ∧ ((999 ≤ nat (ρ 24) ∧ f_X1_passDay v μ = some (-3, μ1) ∧ VD μ1 v ρ) ∨ (nat (ρ 24) < 999 ∧ f_X1_passDay v μ = some (Int32.ofNat (nat (ρ 24) + 1), μ1) ∧ VD μ1 v (rdy (rti L ρ n)))) := by
  have hn9 := hD.1.2
  have hv3 := hv
  unfold vO at hv3
  have e54 : ρ 54 = Int32.ofNat n := by rw [← hn]; exact hD.1.1
  have e24 : ρ 24 = Int32.ofNat (nat (ρ 24)) := hD.2.2.1.1.1
  have l24 := hD.2.2.1.1.2
  have ld0 : hm_ld μ (v + 5) 4 0 = some (Int32.ofNat (nat (ρ 24))) := by
    rw [show (0 : Int32) = Int32.ofNat 0 from rfl, ld_n (by decide) (by decide), h.2.2.2.1]; exact congrArg some e24
  have lx : hm_ldX 1 0 = some (Int32.ofNat 999) := by decide
  by_cases hd : nat (ρ 24) < 999
  · suffices H : ∃ μ1, f_X1_passDay v μ = some (Int32.ofNat (nat (ρ 24) + 1), μ1) ∧ VD μ1 v (rdy (rti L ρ n)) ∧ fd v μ μ1 by
      obtain ⟨μ1, q1, q2, q3⟩ := H
      exact ⟨μ1, q3, Or.inr ⟨hd, q1, q2⟩⟩
    unfold f_X1_passDay
    rw [ld0, Option.bind_some, lx, Option.bind_some, if_pos (by rw [n_lt (by omega) (by omega)]; exact hd)]
    refine lo2 (L := f_X1_passDay_L19 v _) (fun k y m => y = Int32.ofNat k ∧ fd v μ m ∧ VD m v ρ ∧ ∀ i, i < k → m.1 111 i = Int32.ofNat (s_tire L ρ i)) (fun o => ∃ μ1, o = some (Int32.ofNat (nat (ρ 24) + 1), μ1) ∧ VD μ1 v (rdy (rti L ρ n)) ∧ fd v μ μ1) n (fun k y m hk hI => Or.inl ?_) (fun y m hI F => ?_) (fu_lt (by omega)) ⟨rfl, fd_refl v μ, h, fun i hi => absurd hi (Nat.not_lt_zero i)⟩
    · obtain ⟨rfl, f, g, t⟩ := hI
      have e0 : m.1 v 0 = Int32.ofNat n := by rw [g.1, e54]
      obtain ⟨m2, f2, c2⟩ := j9_tire (μ := m) (a := k) (L := L) (law := law) (v := v) (by omega) hD.b g.2.2 hv (hL.fd hv2 f) (fd_109 f hW)
      have g2 := g.fj hv f2
      refine ⟨_, hm_wI m2 111 k (Int32.ofNat (s_tire L ρ k)), ⟨rfl, fd_w (fd_trans f (fj_fd f2)) (by omega) _, ⟨?_, fun i hi => ?_, fun i hi => ?_, ?_, ?_⟩, fun i hi => ?_⟩, fun F => ?_⟩
      · rw [wI_ne (by omega)]; exact g2.1
      · rw [wI_ne (by omega)]; exact g2.2.1 i hi
      · rw [wI_ne (by omega), wI_ne (by omega), wI_ne (by omega)]; exact g2.2.2.1 i hi
      · rw [wI_ne (by omega)]; exact g2.2.2.2.1
      · rw [wI_ne (by omega)]; exact g2.2.2.2.2
      · by_cases z : i = k
        · subst z; rw [wI_at]
        · rw [wI_ne (by omega), f2.2 _ _ (by omega) (by omega) (by omega)]; exact t i (by omega)
      · rw [f_X1_passDay_L19, e0, if_neg (by rw [n_le (by omega) (by omega)]; omega), lawIF_fd hv f, l1, Option.bind_some, c2, b2_some, sd_n (by omega) (by decide), Option.bind_some, show Int32.ofNat k + 1 = Int32.ofNat (k + 1) from n_add k 1]
    · obtain ⟨rfl, f, g, t⟩ := hI
      have e0 : m.1 v 0 = Int32.ofNat n := by rw [g.1, e54]
      rw [f_X1_passDay_L19, e0, if_pos (by rw [n_le (by omega) (by omega)]; omega)]
      refine lo2 (L := f_X1_passDay_L54 v _) (fun k y m' => y = Int32.ofNat k ∧ (fd v μ m' ∧ (∀ a j, a ≠ v + 2 → m'.1 a j = m.1 a j)) ∧ ∀ i, i < 8 → m'.1 (v + 2) i = if i < k then Int32.ofNat (nat (ρ (8 + i)) - s_tire L ρ i) else ρ (8 + i)) (fun o => ∃ μ1, o = some (Int32.ofNat (nat (ρ 24) + 1), μ1) ∧ VD μ1 v (rdy (rti L ρ n)) ∧ fd v μ μ1) n (fun k y m' hk hI => Or.inl ?_) (fun y m' hI F => ?_) (fu_lt (by omega)) ⟨rfl, ⟨f, fun _ _ _ => rfl⟩, fun i hi => by rw [if_neg (by omega)]; exact (g.2.2.1 i hi).2.1⟩
      · obtain ⟨rfl, ⟨f3, f4⟩, t3⟩ := hI
        have e1 : m'.1 v 0 = Int32.ofNat n := by rw [f4 _ _ (by omega)]; exact e0
        have r1 : m'.1 (v + 2) k = Int32.ofNat (nat (ρ (8 + k))) := by rw [t3 k (by omega), if_neg (by omega)]; exact (hD.2.1 k (by omega)).2.1.1
        have t1 : m'.1 111 k = Int32.ofNat (s_tire L ρ k) := by rw [f4 _ _ (by omega)]; exact t k hk
        have b1 : nat (ρ (8 + k)) < 5 := (hD.2.1 k (by omega)).2.1.2
        have b2 := s_tire_le L ρ k
        refine ⟨_, hm_wI m' (v + 2) k (Int32.ofNat (nat (ρ (8 + k)) - s_tire L ρ k)), ⟨rfl, ⟨fd_w f3 (by omega) _, fun a j ha => by rw [wI_ne (by omega)]; exact f4 a j ha⟩, fun i hi => ?_⟩, fun F => ?_⟩
        · by_cases z : i = k
          · subst z; rw [wI_at, if_pos (by omega)]
          · rw [wI_ne (by omega), t3 i hi]
            by_cases q : i < k
            · rw [if_pos q, if_pos (by omega)]
            · rw [if_neg q, if_neg (by omega)]
        · rw [f_X1_passDay_L54, e1, if_neg (by rw [n_le (by omega) (by omega)]; omega), ld_n (by omega) (by decide), Option.bind_some, ld_n (by omega) (by decide), Option.bind_some, r1, t1, mx_9 _ b1 _ (by omega), sd_n (by omega) (by decide), Option.bind_some, show Int32.ofNat k + 1 = Int32.ofNat (k + 1) from n_add k 1]
      · obtain ⟨rfl, ⟨f3, f4⟩, t3⟩ := hI
        have e1 : m'.1 v 0 = Int32.ofNat n := by rw [f4 _ _ (by omega)]; exact e0
        have d1 : m'.1 (v + 5) 0 = Int32.ofNat (nat (ρ 24)) := by rw [f4 _ _ (by omega), g.2.2.2.1]; exact e24
        have er : ∀ k, k ≠ 24 → ¬ (8 ≤ k ∧ k < 16) → rdy (rti L ρ n) k = ρ k := fun k h1 h2 => by
          unfold rdy rti
          rw [if_neg h1, if_neg (by omega)]
        refine ⟨hm_wI m' (v + 5) 0 (Int32.ofNat (nat (ρ 24) + 1)), ?_, ⟨?_, fun i hi => ?_, fun i hi => ⟨?_, ?_, ?_⟩, ?_, ?_⟩, fd_w f3 (by omega) _⟩
        · rw [f_X1_passDay_L54, e1, if_pos (by rw [n_le (by omega) (by omega)]; omega), show (0 : Int32) = Int32.ofNat 0 from rfl, ld_n (by decide) (by decide), Option.bind_some, d1, show Int32.ofNat (nat (ρ 24)) + 1 = Int32.ofNat (nat (ρ 24) + 1) from n_add _ 1, sd_n (by decide) (by decide), Option.bind_some, ld_n (by decide) (by decide), Option.bind_some, wI_at]
        · rw [wI_ne (by omega), f4 _ _ (by omega), er 54 (by omega) (by omega)]; exact g.1
        · rw [wI_ne (by omega), f4 _ _ (by omega), er (16 + i) (by omega) (by omega)]; exact g.2.1 i hi
        · rw [wI_ne (by omega), f4 _ _ (by omega), er i (by omega) (by omega)]; exact (g.2.2.1 i hi).1
        · rw [wI_ne (by omega), t3 i hi]
          unfold rdy rti
          rw [if_neg (show ¬ 8 + i = 24 by omega)]
          by_cases q : i < n
          · rw [if_pos q, if_pos (by omega), show 8 + i - 8 = i by omega]
          · rw [if_neg q, if_neg (by omega)]
        · rw [wI_ne (by omega), f4 _ _ (by omega), er (25 + i) (by omega) (by omega)]; exact (g.2.2.1 i hi).2.2
        · rw [wI_at]
          unfold rdy rti
          rw [if_pos rfl, if_neg (by omega)]
        · rw [wI_ne (by omega), f4 _ _ (by omega), er 52 (by omega) (by omega)]; exact g.2.2.2.2
  · refine ⟨μ, fd_refl v μ, Or.inl ⟨by omega, ?_, h⟩⟩
    unfold f_X1_passDay
    rw [ld0, Option.bind_some, lx, Option.bind_some, if_neg (by rw [n_lt (by omega) (by omega)]; exact hd)]
theorem x10_day {m : hm_M} (hρ : m.1 181 = ρ) (hD : DW ρ) (hn : nat (ρ 54) = n) (hd : nat (ρ 24) < 999) (hL : FL ρ L) : ∃ m1, f_X10_dayPasses m = some m1 ∧ m1.1 181 = (drO L n n (rdy (rti L ρ n), 0)).1 ∧ fr m m1 := by
  have hn9 := hD.1.2
  have e54 : ρ 54 = Int32.ofNat n := by rw [← hn]; exact hD.1.1
  have e24 : ρ 24 = Int32.ofNat (nat (ρ 24)) := hD.2.2.1.1.1
  unfold f_X10_dayPasses
  refine lo2 (L := f_X10_dayPasses_L2 _) (fun k y m' => y = Int32.ofNat k ∧ (fr m m' ∧ m'.1 181 = ρ) ∧ ∀ i, i < k → m'.1 192 i = Int32.ofNat (s_tire L ρ i)) (fun o => ∃ m1, o = some m1 ∧ m1.1 181 = (drO L n n (rdy (rti L ρ n), 0)).1 ∧ fr m m1) n (fun k y m' hk hI => Or.inl ?_) (fun y m' hI F => ?_) (fu_lt (by omega)) ⟨rfl, ⟨fr_refl m, hρ⟩, fun i hi => absurd hi (Nat.not_lt_zero i)⟩
  · obtain ⟨rfl, ⟨f, g⟩, t⟩ := hI
    obtain ⟨m2, f2, c2⟩ := j10_tire (μ := m') (a := k) (L := L) (by omega) (by rw [g]; exact hL)
    rw [g] at c2
    refine ⟨_, hm_wI m2 192 k (Int32.ofNat (s_tire L ρ k)), ⟨rfl, ⟨fr_w (fr_trans f (fq_fr f2)) (by omega) _ _, ?_⟩, fun i hi => ?_⟩, fun F => ?_⟩
    · exact (funext fun j => wI_ne (by omega)).trans ((fq_181 f2).trans g)
    · by_cases z : i = k
      · subst z; rw [wI_at]
      · rw [wI_ne (by omega), f2.2 _ _ (by omega) (by omega)]; exact t i (by omega)
    · rw [f_X10_dayPasses_L2, v_many (by rw [g]; exact e54), Option.bind_some, if_neg (by rw [n_le (by omega) (by omega)]; omega), c2, b2_some, sd_n (by omega) (by decide), Option.bind_some, show Int32.ofNat k + 1 = Int32.ofNat (k + 1) from n_add k 1]
  · obtain ⟨rfl, ⟨f, g⟩, t⟩ := hI
    rw [f_X10_dayPasses_L2, v_many (by rw [g]; exact e54), Option.bind_some, if_pos (by rw [n_le (by omega) (by omega)]; omega)]
    refine lo2 (L := f_X10_dayPasses_L29 _) (fun k y m2 => y = Int32.ofNat k ∧ (fr m m2 ∧ (∀ i, i < 8 → m2.1 192 i = m'.1 192 i)) ∧ m2.1 181 = rti L ρ k) (fun o => ∃ m1, o = some m1 ∧ m1.1 181 = (drO L n n (rdy (rti L ρ n), 0)).1 ∧ fr m m1) n (fun k y m2 hk hI => Or.inl ?_) (fun y m2 hI F => ?_) (fu_lt (by omega)) ⟨rfl, ⟨f, fun _ _ => rfl⟩, ?_⟩
    · obtain ⟨rfl, ⟨f3, f4⟩, g3⟩ := hI
      have b1 : nat (ρ (8 + k)) < 5 := (hD.2.1 k (by omega)).2.1.2
      have b2 := s_tire_le L ρ k
      have r1 : m2.1 181 (8 + k) = Int32.ofNat (nat (ρ (8 + k))) := by
        rw [g3]
        unfold rti
        rw [if_neg (by omega)]
        exact (hD.2.1 k (by omega)).2.1.1
      have e5 : m2.1 181 54 = Int32.ofNat n := by
        rw [g3]
        unfold rti
        rw [if_neg (by omega)]
        exact e54
      refine ⟨_, hm_wI m2 181 (8 + k) (Int32.ofNat (nat (ρ (8 + k)) - s_tire L ρ k)), ⟨rfl, ⟨fr_w f3 (by omega) _ _, fun i hi => by rw [wI_ne (by omega)]; exact f4 i hi⟩, funext fun j => ?_⟩, fun F => ?_⟩
      · unfold rti
        by_cases z : j = 8 + k
        · subst z
          rw [wI_at, if_pos (by omega), show 8 + k - 8 = k by omega]
        · rw [wI_ne (by omega), g3]
          unfold rti
          by_cases q : 8 ≤ j ∧ j < 8 + k
          · rw [if_pos q, if_pos (by omega)]
          · rw [if_neg q, if_neg (by omega)]
      · rw [f_X10_dayPasses_L29, v_many e5, Option.bind_some, if_neg (by rw [n_le (by omega) (by omega)]; omega), show (8 : Int32) = Int32.ofNat 8 from rfl, n_add, ld_n (by omega) (by decide), Option.bind_some, ld_n (by omega) (by decide), Option.bind_some, r1, f4 k (by omega), t k hk, mx_10 _ b1 _ (by omega), Option.bind_some, sd_n (by omega) (by decide), Option.bind_some, show Int32.ofNat k + 1 = Int32.ofNat (k + 1) from n_add k 1]
    · obtain ⟨rfl, ⟨f3, f4⟩, g3⟩ := hI
      have e5 : m2.1 181 54 = Int32.ofNat n := by
        rw [g3]
        unfold rti
        rw [if_neg (by omega)]
        exact e54
      have d1 : m2.1 181 24 = Int32.ofNat (nat (ρ 24)) := by
        rw [g3]
        unfold rti
        rw [if_neg (by omega)]
        exact e24
      have g4 : (hm_wI m2 181 24 (Int32.ofNat (nat (ρ 24) + 1))).1 181 = rdy (rti L ρ n) := funext fun j => by
        unfold rdy
        by_cases z : j = 24
        · subst z
          rw [wI_at, if_pos rfl]
          unfold rti
          rw [if_neg (by omega)]
        · rw [wI_ne (by omega), if_neg z, g3]
      have hD2 := rti_D (L := L) (n := n) hD (by omega) hd
      have hn2 : nat (rdy (rti L ρ n) 54) = n := by
        unfold rdy rti
        rw [if_neg (by omega), if_neg (by omega)]
        exact hn
      obtain ⟨m3, c3, g5, f5⟩ := v_drop10 (μ := hm_wI m2 181 24 (Int32.ofNat (nat (ρ 24) + 1))) (L := L) g4 hD2 hn2 (FL_cong hL fun k hk => by
        unfold rdy rti
        rw [if_neg (by omega), if_neg (by omega)])
      refine ⟨m3, ?_, g5, fr_trans (fr_w f3 (by omega) _ _) f5⟩
      rw [f_X10_dayPasses_L29, v_many e5, Option.bind_some, if_pos (by rw [n_le (by omega) (by omega)]; omega), show (24 : Int32) = Int32.ofNat 24 from rfl, ld_n (by decide) (by decide), Option.bind_some, d1, show Int32.ofNat (nat (ρ 24)) + 1 = Int32.ofNat (nat (ρ 24) + 1) from n_add _ 1, sd_n (by decide) (by decide), Option.bind_some, c3, b2_some]
    · rw [g]
      funext j
      unfold rti
      rw [if_neg (by omega)]
theorem x10_canT {m : hm_M} {a b : Nat} (hρ : m.1 181 = ρ) (hD : DW ρ) (hL : FL ρ L) (ha : a < 8) (hb : b < 8) (hab : a ≠ b) : ∃ m1, fq m m1 ∧ f_X10_canTake (Int32.ofNat a) (Int32.ofNat b) m = some (zb (okT0 L ρ a b), m1) := by
  subst hρ
  have k1 : hx (m.1 181) a < 256 := (hD.2.1 a ha).2.2.2.2
  have k2 : hx (m.1 181) b < 256 := (hD.2.1 b hb).2.2.2.2
  have e1 : hm_ld m 181 5665 ((16 : Int32) + Int32.ofNat a) = some (Int32.ofNat (hx (m.1 181) a)) := by
    rw [show (16 : Int32) = Int32.ofNat 16 from rfl, n_add, ld_n (by omega) (by decide)]; exact congrArg some (hD.2.1 a ha).2.2.2.1
  have e2 : hm_ld m 181 5665 ((16 : Int32) + Int32.ofNat b) = some (Int32.ofNat (hx (m.1 181) b)) := by
    rw [show (16 : Int32) = Int32.ofNat 16 from rfl, n_add, ld_n (by omega) (by decide)]; exact congrArg some (hD.2.1 b hb).2.2.2.1
  have pl1 := pop_le _ k1
  have pl2 := pop_le _ k2
  unfold f_X10_canTake okT0
  rw [if_neg (by rw [n_eq (by omega) (by omega)]; exact hab), e1, Option.bind_some, v_isIn k1 hb, Option.bind_some]
  cases hz : (hx (m.1 181) a).testBit b with
  | true => exact ⟨m, fq_refl m, by rw [if_neg (show ¬ zb true = 0 by decide)]; simp [zb]⟩
  | false =>
    rw [if_pos (show zb false = 0 from rfl), Option.bind_some, v_pop10 _ k1, Option.bind_some]
    by_cases q1 : pop (hx (m.1 181) a) < 2
    · rw [if_neg (by rw [show (2 : Int32) = Int32.ofNat 2 from rfl, n_le (by omega) (by omega)]; omega), e2, Option.bind_some, v_pop10 _ k2, Option.bind_some, decide_eq_true q1]
      by_cases q2 : pop (hx (m.1 181) b) < 2
      · rw [if_neg (by rw [show (2 : Int32) = Int32.ofNat 2 from rfl, n_le (by omega) (by omega)]; omega), decide_eq_true q2]
        obtain ⟨m1, f1, c1⟩ := j10_can (μ := m) (a := a) (b := b) (L := L) ha hb hD.b hL
        refine ⟨m1, f1, ?_⟩
        rw [c1, b2_some]
        cases s_can L (m.1 181) a b <;> rfl
      · rw [if_pos (by rw [show (2 : Int32) = Int32.ofNat 2 from rfl, n_le (by omega) (by omega)]; omega), decide_eq_false q2]
        exact ⟨m, fq_refl m, rfl⟩
    · rw [if_pos (by rw [show (2 : Int32) = Int32.ofNat 2 from rfl, n_le (by omega) (by omega)]; omega), decide_eq_false q1]
      exact ⟨m, fq_refl m, rfl⟩
end
end
