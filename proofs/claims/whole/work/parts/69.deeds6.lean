section
/-! A walk, a day: both sides; a deed that is noted. -/
theorem deed_2 {L : List pc_K} {ρ : Nat → Int32} (hD : DW ρ) (hL : FL ρ L) (x y : Int32) : ∃ ans ρ1, D9 L ρ 2 x y ans ρ1 ∧ D10 ρ 2 x y ans ρ1 := by
  have d0 : ∀ (v : Nat) (μ : hm_M), f_X1_doOne v (Int32.ofNat 2) x y μ = hm_b2 (f_X1_stepOn v x y μ) fun x6 μ7 => (if 0 ≤ x6 then hm_b2 (f_X1_dropHolds v μ7) fun x8 μ9 => some (x8, μ9) else some (x6, μ7)) := by
    intro v μ
    unfold f_X1_doOne
    rw [if_neg (by decide), if_neg (by decide), if_neg (by decide), if_pos (show Int32.ofNat 2 = 2 from rfl)]
  have h9 := hD.1.2
  have z0 : ∀ q : Int32, (0 : Int32) + q = q := Int32.zero_add
  by_cases hy : 1 ≤ y.toInt ∧ y.toInt ≤ 4
  · by_cases p1 : 0 ≤ x.toInt ∧ x.toInt < nat (ρ 54)
    · obtain ⟨p, rfl, ep, lp⟩ := v_of p1.1
      obtain ⟨w, rfl, ew, lw⟩ := v_of (x := y) (by omega)
      have hp : p < 8 := by omega
      have hw : w < 5 := by omega
      have hw1 : 1 ≤ w := by omega
      have c25 : nat (ρ p) < 25 := (hD.2.1 p hp).1.2
      have st10 : ∀ m, m.1 181 = ρ → f_X10_walksKept (Int32.ofNat p) (Int32.ofNat w) m = (if (if wce (nat (ρ p)) w = 99 then (-1 : Int32) else Int32.ofNat (wce (nat (ρ p)) w)) = -1 then some ((-3 : Int32), m) else Option.bind (f_X10_keeps (2 : Int32) m) fun μ7 => Option.bind (hm_sd μ7 181 5665 (Int32.ofNat p) (if wce (nat (ρ p)) w = 99 then (-1 : Int32) else Int32.ofNat (wce (nat (ρ p)) w))) fun μ8 => hm_b2 (f_X10_loosesAll μ8) fun x9 μ10 => some (x9, μ10)) := by
        intro m hm
        unfold f_X10_walksKept
        rw [v_lies, if_pos (show (1 : Int32).toInt ≤ _ ∧ _ ≤ (4 : Int32).toInt from hy), Option.bind_some, if_neg (by decide), x10_P hm hD, if_pos p1, Option.bind_some, if_neg (by decide), z0, ld_n (by omega) (by decide), Option.bind_some, hm, (hD.2.1 p hp).1.1, nat_n (by omega), v_cellAt _ c25 w hw hw1, Option.bind_some]
      by_cases w99 : wce (nat (ρ p)) w = 99
      · refine ⟨-3, ρ, fun μ v law h hv hv2 l1 l2 hW => ?_, Or.inl ⟨Or.inr (Or.inr (Or.inl rfl)), by decide, by decide, rfl, fun m hm => ⟨m, ?_, fq_refl m⟩⟩⟩
        · obtain ⟨μ1, f, ⟨q, -⟩ | ⟨-, q, -⟩ | ⟨p', w', e1, e2, l1', l2', l3', ⟨-, e, g⟩ | ⟨q, -⟩⟩⟩ := x1_step h hD (Int32.ofNat p) (Int32.ofNat w)
          · exact absurd hy q
          · exact absurd p1 q
          · exact ⟨μ1, by rw [d0, e]; rfl, g, f⟩
          · rw [n_eq (by omega) (by omega)] at e1 e2
            subst e1; subst e2
            omega
        · show f_X10_walksKept _ _ m = _
          rw [st10 m hm, if_pos w99, if_pos rfl]
      · have w25 : wce (nat (ρ p)) w < 25 := (wce_lt _ c25 w hw).resolve_right w99
        have hD1 := rcl_D hD hp w25
        have en : nat (rcl ρ p (wce (nat (ρ p)) w) 54) = nat (ρ 54) := by
          unfold rcl
          rw [if_neg (by omega)]
        have hL1 : FL (rcl ρ p (wce (nat (ρ p)) w)) L := FL_cong hL fun k hk => if_neg (by omega)
        obtain ⟨dD, dE⟩ := drO_D (L := L) (n := nat (ρ 54)) (q := (rcl ρ p (wce (nat (ρ p)) w), 0)) hD1 en (nat (ρ 54)) (Nat.le_refl _)
        have hcs := drO_c L (nat (ρ 54)) (rcl ρ p (wce (nat (ρ p)) w), 0) (nat (ρ 54)) (Nat.le_refl _)
        have hsm : (drO L (nat (ρ 54)) (nat (ρ 54)) (rcl ρ p (wce (nat (ρ p)) w), 0)).2 < 100000 := by
          have : nat (ρ 54) * nat (ρ 54) ≤ 8 * 8 := Nat.mul_le_mul (by omega) (by omega)
          have e0 : ((rcl ρ p (wce (nat (ρ p)) w), 0) : (Nat → Int32) × Nat).2 = 0 := rfl
          omega
        have ne1 : ∀ k : Nat, k < 25 → Int32.ofNat k ≠ -1 := by decide +kernel
        refine ⟨Int32.ofNat (drO L (nat (ρ 54)) (nat (ρ 54)) (rcl ρ p (wce (nat (ρ p)) w), 0)).2, (drO L (nat (ρ 54)) (nat (ρ 54)) (rcl ρ p (wce (nat (ρ p)) w), 0)).1, fun μ v law h hv hv2 l1 l2 hW => ?_, Or.inr ⟨⟨_, rfl, hsm⟩, dD, fun k hk => (dE k (by omega)).trans (if_neg (by omega)), fun m u hm hu hu2 => ?_⟩⟩
        · obtain ⟨μ1, f, ⟨q, -⟩ | ⟨-, q, -⟩ | ⟨p', w', e1, e2, l1', l2', l3', ⟨q, -⟩ | ⟨-, e, g⟩⟩⟩ := x1_step h hD (Int32.ofNat p) (Int32.ofNat w)
          · exact absurd hy q
          · exact absurd p1 q
          · rw [n_eq (by omega) (by omega)] at e1 e2
            subst e1; subst e2
            exact absurd q w99
          · rw [n_eq (by omega) (by omega)] at e1 e2
            subst e1; subst e2
            obtain ⟨μ2, c2, g2, f2⟩ := v_drop9 g hD1 en hv hv2 (by rw [lawIF_fd hv f]; exact l1) (l2.fd hv2 f) (fd_109 f hW)
            refine ⟨μ2, ?_, g2, fd_trans f f2⟩
            rw [d0, e, b2_some, if_pos (by decide), c2]
            rfl
        · obtain ⟨mk, k1, ⟨k2, k3⟩, k4⟩ := v_keeps (m := m) (u := u) (d := 2) hu hu2
          have kk : mk.1 181 = ρ := (funext fun j => k3 181 j (by decide) (by omega)).trans hm
          have g2 : (hm_wI mk 181 p (Int32.ofNat (wce (nat (ρ p)) w))).1 181 = rcl ρ p (wce (nat (ρ p)) w) := funext fun j => by
            unfold rcl
            by_cases z : j = p
            · subst z; rw [wI_at, if_pos rfl]
            · rw [wI_ne (by omega), if_neg z, kk]
          obtain ⟨m2, c2, g3, r2⟩ := v_drop10 (μ := hm_wI mk 181 p (Int32.ofNat (wce (nat (ρ p)) w))) (L := L) g2 hD1 en hL1
          refine ⟨m, mk, m2, fq_refl m, k1, ?_, fr_trans (fr_w (fr_refl mk) (by omega) _ _) r2, g3⟩
          show f_X10_walksKept _ _ m = _
          rw [st10 m hm, if_neg w99, if_neg (ne1 _ w25), show f_X10_keeps 2 m = _ from k1, Option.bind_some, sd_n (by omega) (by decide), Option.bind_some, c2]
          rfl
    · refine ⟨-2, ρ, fun μ v law h hv hv2 l1 l2 hW => ?_, Or.inl ⟨Or.inr (Or.inl rfl), by decide, by decide, rfl, fun m hm => ⟨m, ?_, fq_refl m⟩⟩⟩
      · obtain ⟨μ1, f, ⟨q, -⟩ | ⟨-, -, e, g⟩ | ⟨p, w, rfl, rfl, q1, -⟩⟩ := x1_step h hD x y
        · exact absurd hy q
        · exact ⟨μ1, by rw [d0, e]; rfl, g, f⟩
        · exfalso
          apply p1
          rw [n_toInt (by omega)]
          omega
      · show f_X10_walksKept x y m = _
        unfold f_X10_walksKept
        rw [v_lies, if_pos (show (1 : Int32).toInt ≤ _ ∧ _ ≤ (4 : Int32).toInt from hy), Option.bind_some, if_neg (by decide), x10_P hm hD, if_neg p1]
        rfl
  · refine ⟨-1, ρ, fun μ v law h hv hv2 l1 l2 hW => ?_, Or.inl ⟨Or.inl rfl, by decide, by decide, rfl, fun m hm => ⟨m, ?_, fq_refl m⟩⟩⟩
    · obtain ⟨μ1, f, ⟨-, e, g⟩ | ⟨q, -⟩ | ⟨p, w, rfl, rfl, q1, q2, q3, -⟩⟩ := x1_step h hD x y
      · exact ⟨μ1, by rw [d0, e]; rfl, g, f⟩
      · exact absurd q hy
      · exfalso
        apply hy
        rw [n_toInt (by omega)]
        omega
    · show f_X10_walksKept x y m = _
      unfold f_X10_walksKept
      rw [v_lies, if_neg (show ¬ ((1 : Int32).toInt ≤ _ ∧ _ ≤ (4 : Int32).toInt) from hy)]
      rfl
theorem deed_3 {L : List pc_K} {ρ : Nat → Int32} (hD : DW ρ) (hL : FL ρ L) (x y : Int32) : ∃ ans ρ1, D9 L ρ 3 x y ans ρ1 ∧ D10 ρ 3 x y ans ρ1 := by
  have d0 : ∀ (v : Nat) (μ : hm_M), f_X1_doOne v (Int32.ofNat 3) x y μ = hm_b2 (f_X1_passDay v μ) fun x2 μ3 => (if x2 < 0 then some (x2, μ3) else hm_b2 (f_X1_dropHolds v μ3) fun x4 μ5 => some (x2, μ5)) := by
    intro v μ
    unfold f_X1_doOne
    rw [if_pos (by decide)]
  have h9 := hD.1.2
  have e24 : ρ 24 = Int32.ofNat (nat (ρ 24)) := hD.2.2.1.1.1
  have l24 := hD.2.2.1.1.2
  have st10 : ∀ m, m.1 181 = ρ → f_X10_passesKept m = (if nat (ρ 24) = 999 then some ((-3 : Int32), m) else Option.bind (f_X10_keeps (3 : Int32) m) fun μ4 => Option.bind (f_X10_dayPasses μ4) fun μ6 => Option.bind (hm_ld μ6 181 5665 (24 : Int32)) fun x7 => some (x7, μ6)) := by
    intro m hm
    unfold f_X10_passesKept
    rw [show (24 : Int32) = Int32.ofNat 24 from rfl, ld_n (by decide) (by decide), Option.bind_some, hm, e24]
    by_cases z : nat (ρ 24) = 999
    · rw [if_pos (by rw [z]; rfl), nat_n (by omega), if_pos z]
    · rw [if_neg (by rw [show (999 : Int32) = Int32.ofNat 999 from rfl, n_eq (by omega) (by omega)]; exact z), nat_n (by omega), if_neg z]
  by_cases hd : nat (ρ 24) < 999
  · have hD1 := rti_D (L := L) (n := nat (ρ 54)) hD (by omega) hd
    have en : nat (rdy (rti L ρ (nat (ρ 54))) 54) = nat (ρ 54) := by
      unfold rdy rti
      rw [if_neg (by omega), if_neg (by omega)]
    obtain ⟨dD, dE⟩ := drO_D (L := L) (n := nat (ρ 54)) (q := (rdy (rti L ρ (nat (ρ 54))), 0)) hD1 en (nat (ρ 54)) (Nat.le_refl _)
    refine ⟨Int32.ofNat (nat (ρ 24) + 1), (drO L (nat (ρ 54)) (nat (ρ 54)) (rdy (rti L ρ (nat (ρ 54))), 0)).1, fun μ v law h hv hv2 l1 l2 hW => ?_, Or.inr ⟨⟨_, rfl, by omega⟩, dD, fun k hk => (dE k (by omega)).trans ?_, fun m u hm hu hu2 => ?_⟩⟩
    · obtain ⟨μ1, f, ⟨q, -⟩ | ⟨-, e, g⟩⟩ := x1_pass h hD rfl hv hv2 l1 l2 hW
      · omega
      · obtain ⟨μ2, c2, g2, f2⟩ := v_drop9 g hD1 en hv hv2 (by rw [lawIF_fd hv f]; exact l1) (l2.fd hv2 f) (fd_109 f hW)
        refine ⟨μ2, ?_, g2, fd_trans f f2⟩
        rw [d0, e, b2_some, if_neg (n_nn (by omega)), c2]
        rfl
    · show rdy (rti L ρ (nat (ρ 54))) k = ρ k
      unfold rdy rti
      rw [if_neg (by omega), if_neg (by omega)]
    · obtain ⟨mk, k1, ⟨k2, k3⟩, k4⟩ := v_keeps (m := m) (u := u) (d := 3) hu hu2
      have kk : mk.1 181 = ρ := (funext fun j => k3 181 j (by decide) (by omega)).trans hm
      obtain ⟨m2, c2, g3, r2⟩ := x10_day (m := mk) (L := L) kk hD rfl hd hL
      refine ⟨m, mk, m2, fq_refl m, k1, ?_, r2, g3⟩
      show f_X10_passesKept m = _
      rw [st10 m hm, if_neg (by omega), show f_X10_keeps 3 m = _ from k1, Option.bind_some, c2, Option.bind_some, show (24 : Int32) = Int32.ofNat 24 from rfl, ld_n (by decide) (by decide), Option.bind_some, g3, dE 24 (by omega)]
      show some (rdy (rti L ρ (nat (ρ 54))) 24, m2) = _
      unfold rdy rti
      rw [if_pos rfl, if_neg (by omega)]
  · refine ⟨-3, ρ, fun μ v law h hv hv2 l1 l2 hW => ?_, Or.inl ⟨Or.inr (Or.inr (Or.inl rfl)), by decide, by decide, rfl, fun m hm => ⟨m, ?_, fq_refl m⟩⟩⟩
    · obtain ⟨μ1, f, ⟨-, e, g⟩ | ⟨q, -⟩⟩ := x1_pass h hD rfl hv hv2 l1 l2 hW
      · exact ⟨μ1, by rw [d0, e]; rfl, g, f⟩
      · omega
    · show f_X10_passesKept m = _
      rw [st10 m hm, if_pos (by omega)]
theorem deed_all {L : List pc_K} {ρ : Nat → Int32} {d : Nat} (hd : d < 4) (hD : DW ρ) (hL : FL ρ L) (x y : Int32) : ∃ ans ρ1, D9 L ρ d x y ans ρ1 ∧ D10 ρ d x y ans ρ1 := by
  match d, hd with
  | 0, _ => exact deed_0 hD hL x y
  | 1, _ => exact deed_1 hD x y
  | 2, _ => exact deed_2 hD hL x y
  | 3, _ => exact deed_3 hD hL x y
  | d + 4, h => omega
end
