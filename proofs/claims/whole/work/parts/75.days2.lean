section
/-! days, on paper. -/
def dlp (L : List pc_K) : Nat → (Nat → Int32) × Nat → (Nat → Int32) × Nat
  | 0, q => q
  | i + 1, q => if nat ((dlp L i q).1 24) < 999 then (dps L (dst L (dlp L i q).1 (nxn (dlp L i q).2 % nat ((dlp L i q).1 54)) (nxn (nxn (dlp L i q).2) % nat ((dlp L i q).1 54)) (nxn (nxn (nxn (dlp L i q).2)) % 3)), nxn (nxn (nxn (dlp L i q).2))) else dlp L i q
theorem dlp_stop {L : List pc_K} {q : (Nat → Int32) × Nat} {i : Nat} (h : ¬ nat ((dlp L i q).1 24) < 999) : ∀ d, dlp L (i + d) q = dlp L i q
  | 0 => rfl
  | d + 1 => by
    show (if nat ((dlp L (i + d) q).1 24) < 999 then _ else dlp L (i + d) q) = _
    rw [dlp_stop h d, if_neg h]
theorem dlp_D {L : List pc_K} {q : (Nat → Int32) × Nat} (hD : DW q.1) (h0 : 0 < nat (q.1 54)) (hs : q.2 ≤ 1000003) : ∀ i, DW (dlp L i q).1 ∧ (∀ k, 25 ≤ k → (dlp L i q).1 k = q.1 k) ∧ (dlp L i q).2 ≤ 1000003
  | 0 => ⟨hD, fun _ _ => rfl, hs⟩
  | i + 1 => by
    obtain ⟨h1, h2, h3⟩ := dlp_D (L := L) hD h0 hs i
    unfold dlp
    by_cases z : nat ((dlp L i q).1 24) < 999
    · rw [if_pos z]
      have e54 : nat ((dlp L i q).1 54) = nat (q.1 54) := by rw [h2 54 (by omega)]
      have key : ∀ a b w s : Nat, a < nat ((dlp L i q).1 54) → b < nat ((dlp L i q).1 54) → s ≤ 1000003 → DW (dps L (dst L (dlp L i q).1 a b w)) ∧ (∀ k, 25 ≤ k → dps L (dst L (dlp L i q).1 a b w) k = q.1 k) ∧ s ≤ 1000003 := by
        intro a b w s ha hb hs
        obtain ⟨d1, d2⟩ := dst_D (L := L) (w := w) h1 ha hb
        obtain ⟨d3, d4⟩ := dps_D (L := L) d1 (by rw [d2 24 (by omega)]; exact z)
        exact ⟨d3, fun k hk => (d4 k hk).trans ((d2 k (by omega)).trans (h2 k hk)), hs⟩
      have m1 : nxn (dlp L i q).2 % nat ((dlp L i q).1 54) < nat ((dlp L i q).1 54) := Nat.mod_lt _ (by omega)
      have m2 : nxn (nxn (dlp L i q).2) % nat ((dlp L i q).1 54) < nat ((dlp L i q).1 54) := Nat.mod_lt _ (by omega)
      have m3 := nxn_le (nxn (nxn (dlp L i q).2))
      generalize nxn (nxn (nxn (dlp L i q).2)) = s3 at m3 ⊢
      generalize nxn (nxn (dlp L i q).2) % nat ((dlp L i q).1 54) = b at m2 ⊢
      generalize nxn (dlp L i q).2 % nat ((dlp L i q).1 54) = a at m1 ⊢
      exact key a b (s3 % 3) s3 m1 m2 m3
    · rw [if_neg z]; exact ⟨h1, h2, h3⟩
theorem dst_0 {L : List pc_K} {ρ : Nat → Int32} {a b : Nat} : dst L ρ a b 0 = if a ≠ b ∧ okT0 L ρ a b = true then rwx ρ a b else ρ := if_pos rfl
theorem dst_1 {L : List pc_K} {ρ : Nat → Int32} {a b : Nat} : dst L ρ a b 1 = if a ≠ b ∧ (hx ρ a).testBit b = true then rwx ρ a b else ρ := by
  unfold dst
  rw [if_neg (by decide), if_pos rfl]
theorem dst_2 {L : List pc_K} {ρ : Nat → Int32} {a b : Nat} : dst L ρ a b 2 = if wce (nat (ρ a)) (b % 4 + 1) = 99 then ρ else (drO L (nat (ρ 54)) (nat (ρ 54)) (rcl ρ a (wce (nat (ρ a)) (b % 4 + 1)), 0)).1 := by
  unfold dst
  rw [if_neg (by decide), if_neg (by decide)]
def fv (μ m : hm_M) : Prop := m.2 = μ.2 ∧ ∀ a j, a ≠ 181 → a ≠ 191 → a ≠ 192 → ¬ (a = 179 ∧ ((22 ≤ j ∧ j ≤ 25) ∨ j = 55)) → m.1 a j = μ.1 a j
theorem fv_refl (μ : hm_M) : fv μ μ := ⟨rfl, fun _ _ _ _ _ _ => rfl⟩
theorem fv_trans {μ μ1 μ2 : hm_M} (h : fv μ μ1) (g : fv μ1 μ2) : fv μ μ2 := ⟨g.1.trans h.1, fun a j h1 h2 h3 h4 => (g.2 a j h1 h2 h3 h4).trans (h.2 a j h1 h2 h3 h4)⟩
theorem fr_fv {μ m : hm_M} (f : fr μ m) : fv μ m := ⟨f.1, fun a j h1 h2 h3 h4 => f.2 a j h1 h2 h3 (by omega)⟩
theorem v_draws {m : hm_M} {s b : Nat} (h : m.1 179 55 = Int32.ofNat s) (hs : s ≤ 1000003) (hb : 0 < b) (hb2 : b < 100) : f_X10_draws (Int32.ofNat b) m = some (Int32.ofNat (nxn s % b), hm_wI m 179 55 (Int32.ofNat (nxn s))) := by
  have := nxn_le s
  unfold f_X10_draws
  rw [h, n_dr hs, pI_some, Option.bind_some, wI_at, rm2_n (by omega) (by omega) hb]
  rfl
theorem x10_time {L : List pc_K} {ρ : Nat → Int32} {m : hm_M} {s n : Nat} (hρ : m.1 181 = ρ) (hD : DW ρ) (hn : nat (ρ 54) = n) (h0 : 0 < n) (hd : nat (ρ 24) < 999) (hL : FL ρ L) (h55 : m.1 179 55 = Int32.ofNat s) (hs : s ≤ 1000003) : ∃ m1, f_X10_dayIsDrawn m = some m1 ∧ m1.1 181 = dps L (dst L ρ (nxn s % n) (nxn (nxn s) % n) (nxn (nxn (nxn s)) % 3)) ∧ m1.1 179 55 = Int32.ofNat (nxn (nxn (nxn s))) ∧ fv m m1 := by
  have h9 := hD.1.2
  have e54 : ρ 54 = Int32.ofNat n := by rw [← hn]; exact hD.1.1
  have b1 := nxn_le s
  generalize hs1 : nxn s = s1 at b1
  have b2 := nxn_le s1
  generalize hs2 : nxn s1 = s2 at b2
  have b3 := nxn_le s2
  generalize hs3 : nxn s2 = s3 at b3
  have q1 : s1 % n < n := Nat.mod_lt _ h0
  have q2 : s2 % n < n := Nat.mod_lt _ h0
  have q3 : s3 % 3 < 3 := Nat.mod_lt _ (by decide)
  generalize ha : s1 % n = a at q1
  generalize hb : s2 % n = b at q2
  generalize hw : s3 % 3 = w at q3
  have m9 : ∀ j, (hm_wI (hm_wI (hm_wI m 179 55 (Int32.ofNat s1)) 179 55 (Int32.ofNat s2)) 179 55 (Int32.ofNat s3)).1 181 j = ρ j := fun j => by rw [wI_ne (by omega), wI_ne (by omega), wI_ne (by omega), hρ]
  have z0 : ∀ k : Int32, (0 : Int32) + k = k := Int32.zero_add
  have c25 : nat (ρ a) < 25 := (hD.2.1 a (by omega)).1.2
  have e4 : Int32.ofNat b - Int32.ofNat b / 4 * 4 + 1 = Int32.ofNat (b % 4 + 1) := by
    rw [show (4 : Int32) = Int32.ofNat 4 from rfl, n_rem (by omega) (by decide), show (1 : Int32) = Int32.ofNat 1 from rfl, n_add]
  have start : f_X10_dayIsDrawn m = (if Int32.ofNat w = 0 then hm_b2 (f_X10_canTake (Int32.ofNat a) (Int32.ofNat b) (hm_wI (hm_wI (hm_wI m 179 55 (Int32.ofNat s1)) 179 55 (Int32.ofNat s2)) 179 55 (Int32.ofNat s3))) fun x21 μ22 => (if x21 = 0 then f_X10_dayIsDrawn_J55 (Int32.ofNat a) (Int32.ofNat b) (Int32.ofNat w) (if wce (nat (ρ a)) (b % 4 + 1) = 99 then -1 else Int32.ofNat (wce (nat (ρ a)) (b % 4 + 1))) μ22 else f_X10_dayIsDrawn_J81 (Int32.ofNat a) (Int32.ofNat b) (Int32.ofNat w) (if wce (nat (ρ a)) (b % 4 + 1) = 99 then -1 else Int32.ofNat (wce (nat (ρ a)) (b % 4 + 1))) μ22) else f_X10_dayIsDrawn_J55 (Int32.ofNat a) (Int32.ofNat b) (Int32.ofNat w) (if wce (nat (ρ a)) (b % 4 + 1) = 99 then -1 else Int32.ofNat (wce (nat (ρ a)) (b % 4 + 1))) (hm_wI (hm_wI (hm_wI m 179 55 (Int32.ofNat s1)) 179 55 (Int32.ofNat s2)) 179 55 (Int32.ofNat s3))) := by
    unfold f_X10_dayIsDrawn
    rw [v_many (by rw [hρ]; exact e54), Option.bind_some, v_draws h55 hs h0 (by omega), b2_some, hs1, v_many (by rw [wI_ne (by omega), hρ]; exact e54), Option.bind_some, v_draws (wI_at _ _ _ _) b1 h0 (by omega), b2_some, hs2, show (3 : Int32) = Int32.ofNat 3 from rfl, v_draws (wI_at _ _ _ _) b2 (by decide) (by decide), b2_some, hs3, ha, hb, hw, z0, ld_n (by omega) (by decide), Option.bind_some, m9, (hD.2.1 a (by omega)).1.1, nat_n (by omega), e4, v_cellAt _ c25 _ (by omega) (by omega), Option.bind_some]
  have f3 : fv m (hm_wI (hm_wI (hm_wI m 179 55 (Int32.ofNat s1)) 179 55 (Int32.ofNat s2)) 179 55 (Int32.ofNat s3)) := ⟨rfl, fun a j h1 h2 h3 h4 => by rw [wI_ne (by omega), wI_ne (by omega), wI_ne (by omega)]⟩
  have g55 : (hm_wI (hm_wI (hm_wI m 179 55 (Int32.ofNat s1)) 179 55 (Int32.ofNat s2)) 179 55 (Int32.ofNat s3)).1 179 55 = Int32.ofNat s3 := wI_at _ _ _ _
  have m9' := funext m9
  generalize hm_wI (hm_wI (hm_wI m 179 55 (Int32.ofNat s1)) 179 55 (Int32.ofNat s2)) 179 55 (Int32.ofNat s3) = m3 at start f3 g55 m9'
  obtain ⟨dD, dE⟩ := dst_D (L := L) (w := w) hD (show a < nat (ρ 54) by omega) (show b < nat (ρ 54) by omega)
  -- the day
  have day : ∀ m4, m4.1 181 = dst L ρ a b w → fr m3 m4 → ∃ m1, f_X10_dayIsDrawn_J113 m4 = some m1 ∧ m1.1 181 = dps L (dst L ρ a b w) ∧ m1.1 179 55 = Int32.ofNat s3 ∧ fv m m1 := by
    intro m4 k1 k2
    have e5 : nat (dst L ρ a b w 54) = n := by rw [dE 54 (by omega)]; exact hn
    obtain ⟨m5, c5, k5, r5⟩ := x10_day (m := m4) (L := L) k1 dD e5 (by rw [dE 24 (by omega)]; exact hd) (FL_cong hL fun k hk => dE k (by omega))
    refine ⟨m5, ?_, ?_, ?_, fv_trans f3 (fv_trans (fr_fv k2) (fr_fv r5))⟩
    · unfold f_X10_dayIsDrawn_J113
      rw [c5]
      rfl
    · rw [k5]
      unfold dps
      rw [e5]
    · rw [r5.2 _ _ (by decide) (by decide) (by decide) (by omega), k2.2 _ _ (by decide) (by decide) (by decide) (by omega)]
      exact g55
  rw [start]
  have w3 : w = 0 ∨ w = 1 ∨ w = 2 := by omega
  rcases w3 with rfl | rfl | rfl
  · rw [if_pos (show Int32.ofNat 0 = 0 from rfl)]
    have nd : ∀ m4, f_X10_dayIsDrawn_J55 (Int32.ofNat a) (Int32.ofNat b) (Int32.ofNat 0) (if wce (nat (ρ a)) (b % 4 + 1) = 99 then -1 else Int32.ofNat (wce (nat (ρ a)) (b % 4 + 1))) m4 = f_X10_dayIsDrawn_J113 m4 := by
      intro m4
      unfold f_X10_dayIsDrawn_J55 f_X10_dayIsDrawn_J87
      rw [if_neg (by decide), if_neg (by decide)]
    by_cases eab : a = b
    · have ed : dst L ρ a b 0 = ρ := by rw [dst_0]; exact if_neg fun z => z.1 eab
      have ct : f_X10_canTake (Int32.ofNat a) (Int32.ofNat b) m3 = some (0, m3) := by
        unfold f_X10_canTake
        rw [if_pos (by rw [eab])]
      rw [ct, b2_some, if_pos rfl, nd]
      exact day m3 (by rw [ed]; exact m9') (fr_refl m3)
    · obtain ⟨m4, f4, c4⟩ := x10_canT (L := L) m9' hD hL (show a < 8 by omega) (show b < 8 by omega) eab
      have k4 : m4.1 181 = ρ := (fq_181 f4).trans m9'
      rw [c4, b2_some]
      cases ok : okT0 L ρ a b with
      | false =>
        have ed : dst L ρ a b 0 = ρ := by rw [dst_0]; exact if_neg fun z => by rw [ok] at z; cases z.2
        rw [if_pos (show zb false = 0 from rfl), nd]
        exact day m4 (by rw [ed]; exact k4) (fq_fr f4)
      | true =>
        have ed : dst L ρ a b 0 = rwx ρ a b := by rw [dst_0]; exact if_pos ⟨eab, ok⟩
        obtain ⟨m5, c5, k5, r5⟩ := v_chg (m := m4) (by rw [k4]; exact hD) (show a < 8 by omega) (show b < 8 by omega) eab
        rw [if_neg (show ¬ zb true = 0 by decide)]
        unfold f_X10_dayIsDrawn_J81 f_X10_dayIsDrawn_J87
        rw [c5, Option.bind_some, if_neg (by decide)]
        exact day m5 (by rw [ed, k5, k4]) (fr_trans (fq_fr f4) r5)
  · rw [if_neg (by decide)]
    have nd1 : ∀ y4 m4, f_X10_dayIsDrawn_J87 (Int32.ofNat a) (Int32.ofNat 1) y4 m4 = f_X10_dayIsDrawn_J113 m4 := by
      intro y4 m4
      unfold f_X10_dayIsDrawn_J87
      rw [if_neg (by decide)]
    unfold f_X10_dayIsDrawn_J55
    rw [if_pos (show Int32.ofNat 1 = 1 from rfl)]
    by_cases eab : a = b
    · have ed : dst L ρ a b 1 = ρ := by
        rw [dst_1]
        exact if_neg fun z => z.1 eab
      rw [if_pos (by rw [eab]), nd1]
      exact day m3 (by rw [ed]; exact m9') (fr_refl m3)
    · have k1 : hx ρ a < 256 := (hD.2.1 a (by omega)).2.2.2.2
      have e1 : hm_ld m3 181 5665 ((16 : Int32) + Int32.ofNat a) = some (Int32.ofNat (hx ρ a)) := by
        rw [show (16 : Int32) = Int32.ofNat 16 from rfl, n_add, ld_n (by omega) (by decide), m9']; exact congrArg some (hD.2.1 a (by omega)).2.2.2.1
      rw [if_neg (by rw [n_eq (by omega) (by omega)]; exact eab), e1, Option.bind_some, v_isIn k1 (by omega), Option.bind_some]
      cases ok : (hx ρ a).testBit b with
      | false =>
        have ed : dst L ρ a b 1 = ρ := by
          rw [dst_1]
          exact if_neg fun z => by rw [ok] at z; cases z.2
        rw [if_pos (show zb false = 0 from rfl), nd1]
        exact day m3 (by rw [ed]; exact m9') (fr_refl m3)
      | true =>
        have ed : dst L ρ a b 1 = rwx ρ a b := by
          rw [dst_1]
          exact if_pos ⟨eab, ok⟩
        obtain ⟨m5, c5, k5, r5⟩ := v_chg (m := m3) (by rw [m9']; exact hD) (show a < 8 by omega) (show b < 8 by omega) eab
        rw [if_neg (show ¬ zb true = 0 by decide)]
        unfold f_X10_dayIsDrawn_J81
        rw [c5, Option.bind_some, nd1]
        exact day m5 (by rw [ed, k5, m9']) r5
  · rw [if_neg (by decide)]
    unfold f_X10_dayIsDrawn_J55 f_X10_dayIsDrawn_J87
    rw [if_neg (by decide), if_pos (show Int32.ofNat 2 = 2 from rfl)]
    have ed : dst L ρ a b 2 = if wce (nat (ρ a)) (b % 4 + 1) = 99 then ρ else (drO L (nat (ρ 54)) (nat (ρ 54)) (rcl ρ a (wce (nat (ρ a)) (b % 4 + 1)), 0)).1 := dst_2
    by_cases w99 : wce (nat (ρ a)) (b % 4 + 1) = 99
    · rw [if_pos w99] at ed
      rw [if_pos w99, if_pos rfl]
      exact day m3 (by rw [ed]; exact m9') (fr_refl m3)
    · rw [if_neg w99] at ed
      have w25 : wce (nat (ρ a)) (b % 4 + 1) < 25 := (wce_lt _ c25 _ (by omega)).resolve_right w99
      have ne1 : ∀ k : Nat, k < 25 → Int32.ofNat k ≠ -1 := by decide +kernel
      have g2 : (hm_wI m3 181 a (Int32.ofNat (wce (nat (ρ a)) (b % 4 + 1)))).1 181 = rcl ρ a (wce (nat (ρ a)) (b % 4 + 1)) := funext fun j => by
        unfold rcl
        by_cases z : j = a
        · subst z; rw [wI_at, if_pos rfl]
        · rw [wI_ne (by omega), if_neg z, m9']
      obtain ⟨m5, c5, k5, r5⟩ := v_drop10 (μ := hm_wI m3 181 a (Int32.ofNat (wce (nat (ρ a)) (b % 4 + 1)))) (L := L) g2 (rcl_D hD (by omega) w25) (by unfold rcl; rw [if_neg (by omega)]) (FL_cong hL fun k hk => if_neg (by omega))
      rw [if_neg w99, if_neg (ne1 _ w25), z0, sd_n (by omega) (by decide), Option.bind_some, c5, b2_some]
      exact day m5 (by rw [ed, k5]) (fr_trans (fr_w (fr_refl m3) (by omega) _ _) r5)
theorem pu_days (v1 v2 : Int32) {μ : hm_M} {ν : hm_N} (hL : hm_LL ν μ) (h : PP μ) : ∃ (r : Int32) (μ1 μ2 : hm_M), f_X9_days v1 v2 μ = some (r, μ1) ∧ f_X10_days v1 v2 μ1 = some (r, μ2) ∧ PP μ2 := by
  obtain ⟨a1, a2, a3, a4, a5, a6, a7⟩ := id h
  have hW := ln_109 hL
  have hD := a1.1.d
  have hn9 := hD.1.2
  have en := hD.1.1
  have rk1 : rk (-1) := Or.inl rfl
  have rk3 : rk (-3) := Or.inr (Or.inr (Or.inl rfl))
  by_cases hcc : (0 ≤ v1.toInt ∧ v1.toInt ≤ 1000000) ∧ 1 ≤ v2.toInt ∧ v2.toInt ≤ 60
  · obtain ⟨S, rfl, eS, lS⟩ := v_of hcc.1.1
    obtain ⟨N, rfl, eN, lN⟩ := v_of (x := v2) (by omega)
    have hS : S ≤ 1000000 := by omega
    have hN : 1 ≤ N ∧ N ≤ 60 := by omega
    have c65 : μ.1 65 0 = Int32.ofNat (nat (μ.1 181 54)) := by rw [a1.2.2.2.1]; exact en
    have st9 : f_X9_days (Int32.ofNat S) (Int32.ofNat N) μ = (if (μ.1 65 0) = 0 then hm_b2 (f_X9_refused (-3 : Int32) μ) fun x23 μ24 => some (x23, μ24) else Option.bind (f_X8_copyFrom 77 65 μ) fun μ5 => Option.bind (hm_pZ μ5 64 4 (1 : Int32)) fun μ6 => f_X9_days_L66 (Int32.ofNat S) (Int32.ofNat N) (fun μz19 => f_X9_days_J185 (Int32.ofNat S) (Int32.ofNat N) μz19) hm_fu (Int32.ofNat S) (0 : Int32) μ6) := by
      unfold f_X9_days
      rw [if_neg (n_nn (by omega)), if_neg (by rw [i_lt, n_toInt (by omega)]; show ¬ (1000000 : Int) < S; omega), if_neg (by rw [i_lt, n_toInt (by omega)]; show ¬ (N : Int) < 1; omega), if_pos (by rw [i_le, n_toInt (by omega)]; show (N : Int) ≤ 60; omega)]
    have st10 : ∀ m, f_X10_days (Int32.ofNat S) (Int32.ofNat N) m = Option.bind (f_X10_many m) fun x6 => (if x6 = 0 then hm_b2 (f_X10_refuses (-3 : Int32) m) fun x24 μ25 => some (x24, μ25) else Option.bind (hm_pI m 179 55 (Int32.ofNat S)) fun μ7 => Option.bind (f_X10_many μ7) fun x8 => Option.bind (hm_pI μ7 179 54 x8) fun μ9 => Option.bind (f_X10_laysAside (0 : Int32) μ9) fun μ11 => f_X10_days_L60 (Int32.ofNat S) (Int32.ofNat N) (fun μz15 => f_X10_days_J88 (Int32.ofNat S) (Int32.ofNat N) μz15) hm_fu (0 : Int32) μ11) := by
      intro m
      unfold f_X10_days
      rw [v_lies, if_pos (show (0 : Int32).toInt ≤ _ ∧ _ ≤ (1000000 : Int32).toInt from hcc.1), Option.bind_some, if_neg (by decide), v_lies, if_pos (show (1 : Int32).toInt ≤ _ ∧ _ ≤ (60 : Int32).toInt from hcc.2), Option.bind_some, if_neg (by decide)]
    by_cases hz : nat (μ.1 181 54) = 0
    · refine ⟨-3, rf9 (-3) μ, rf10 (-3) (rf9 (-3) μ), ?_, ?_, rf_PP rk3 h⟩
      · rw [st9, c65, hz, if_pos (show Int32.ofNat 0 = 0 from rfl), v_rf9 rk3]
        rfl
      · rw [st10, v_many (n := 0) (by rw [rf9_ne (by omega), en, hz]), Option.bind_some, if_pos (show Int32.ofNat 0 = 0 from rfl), v_rf10 rk3]
        rfl
    · -- the component
      obtain ⟨μ5, hm, ⟨g1, g2⟩, g3, g4, g5, g6, g7, g8, g9⟩ := v_copy (o := 77) (v := 65) (by omega) μ
      have V5 : VR μ5 77 (μ.1 181) := a1.like (congrArg (fun z => z.2.2) g2) (fun _ _ => rfl) g4 g5 g6 g7 g8 (fun a j ha => g3 a j (by omega))
      have V6 : VR (hm_wI μ5 64 4 1) 77 (μ.1 181) := V5.same rfl (fun a j z => wI_ne (by omega))
      obtain ⟨law, L, l1, l2, l3⟩ := lawF V6
      have W6 : hm_ln (hm_wI μ5 64 4 1) 109 = 8 := (congrArg (fun z => z.2.2 109) g2).trans hW
      have hv : vO 77 := by unfold vO; omega
      have h0 : 0 < nat (μ.1 181 54) := by omega
      have dl := dlp_D (L := L) (q := (μ.1 181, S)) hD h0 (by show S ≤ _; omega)
      generalize hn : nat (μ.1 181 54) = n at h0 hn9 en
      have dn : ∀ k, nat ((dlp L k (μ.1 181, S)).1 54) = n := fun k => by rw [(dl k).2.1 54 (by omega)]; exact hn
      have s9 : ∃ m, VD m 77 (dlp L N (μ.1 181, S)).1 ∧ fd 77 (hm_wI μ5 64 4 1) m ∧ f_X9_days (Int32.ofNat S) (Int32.ofNat N) μ = some (Int32.ofNat (hc (dlp L N (μ.1 181, S)).1 n / 2), hm_wI m 64 16 0) := by
        have fin : ∀ m, VD m 77 (dlp L N (μ.1 181, S)).1 → f_X9_days_J185 (Int32.ofNat S) (Int32.ofNat N) m = some (Int32.ofNat (hc (dlp L N (μ.1 181, S)).1 n / 2), hm_wI m 64 16 0) := by
          intro m hV
          have dD := (dl N).1
          unfold f_X9_days_J185
          rw [v_countHolds (ρ := (dlp L N (μ.1 181, S)).1) hV.1 hV.2.1 dD.1 (fun i hi => (dD.2.1 i hi).2.2.2), Option.bind_some, v_gr9, dn N]
          rfl
        rw [st9, c65, if_neg (by rw [show (0 : Int32) = Int32.ofNat 0 from rfl, n_eq (by omega) (by omega)]; omega), hm, Option.bind_some, show (1 : Int32) = zb true from rfl, zb_pZ, Option.bind_some]
        refine lo3 (L := f_X9_days_L66 (Int32.ofNat S) (Int32.ofNat N) _) (fun k x y m => x = Int32.ofNat (dlp L k (μ.1 181, S)).2 ∧ y = Int32.ofNat k ∧ VD m 77 (dlp L k (μ.1 181, S)).1 ∧ fd 77 (hm_wI μ5 64 4 1) m) (fun o => ∃ m, VD m 77 (dlp L N (μ.1 181, S)).1 ∧ fd 77 (hm_wI μ5 64 4 1) m ∧ o = some (Int32.ofNat (hc (dlp L N (μ.1 181, S)).1 n / 2), hm_wI m 64 16 0)) N (fun k x y m hk hI => ?_) (fun x y m hI F => ?_) (fu_lt (by omega)) ⟨rfl, rfl, V6.2.2.2.d, fd_refl _ _⟩
        · obtain ⟨rfl, rfl, w1, w2⟩ := hI
          obtain ⟨d1, d2, d3⟩ := dl k
          have e24 : hm_ld m 82 4 0 = some (Int32.ofNat (nat ((dlp L k (μ.1 181, S)).1 24))) := by
            rw [show (0 : Int32) = Int32.ofNat 0 from rfl, ld_n (by decide) (by decide), show m.1 82 0 = _ from w1.2.2.2.1]
            exact congrArg some d1.2.2.1.1.1
          have lx : hm_ldX 1 0 = some (Int32.ofNat 999) := by decide
          have l24 := d1.2.2.1.1.2
          have e77 : m.1 77 0 = Int32.ofNat n := by
            rw [w1.1]
            have := d1.1.1
            rw [dn k] at this
            exact this
          have st : dlp L (k + 1) (μ.1 181, S) = if nat ((dlp L k (μ.1 181, S)).1 24) < 999 then (dps L (dst L (dlp L k (μ.1 181, S)).1 (nxn (dlp L k (μ.1 181, S)).2 % nat ((dlp L k (μ.1 181, S)).1 54)) (nxn (nxn (dlp L k (μ.1 181, S)).2) % nat ((dlp L k (μ.1 181, S)).1 54)) (nxn (nxn (nxn (dlp L k (μ.1 181, S)).2)) % 3)), nxn (nxn (nxn (dlp L k (μ.1 181, S)).2))) else dlp L k (μ.1 181, S) := rfl
          by_cases day : nat ((dlp L k (μ.1 181, S)).1 24) < 999
          · left
            rw [if_pos day, dn k] at st
            generalize hs1 : nxn (dlp L k (μ.1 181, S)).2 = s1 at st
            generalize hs2 : nxn s1 = s2 at st
            generalize hs3 : nxn s2 = s3 at st
            have b1 : s1 ≤ 1000003 := by rw [← hs1]; exact nxn_le _
            have b2 : s2 ≤ 1000003 := by rw [← hs2]; exact nxn_le _
            have b3 : s3 ≤ 1000003 := by rw [← hs3]; exact nxn_le _
            have q1 : s1 % n < n := Nat.mod_lt _ h0
            have q2 : s2 % n < n := Nat.mod_lt _ h0
            have q3 : s3 % 3 < 3 := Nat.mod_lt _ (by decide)
            obtain ⟨x15, m1, c1, c2, c3⟩ := x9_time (L := L) (law := law) (w := s3 % 3) w1 d1 day hv (by decide) (by rw [lawIF_fd hv w2]; exact l1) (l2.fd (by decide) w2) (fd_109 w2 W6) (show s1 % n < _ by rw [dn k]; exact q1) (show s2 % n < _ by rw [dn k]; exact q2) q3
            obtain ⟨p1, p2⟩ := dst_D (L := L) (w := s3 % 3) d1 (show s1 % n < _ by rw [dn k]; exact q1) (show s2 % n < _ by rw [dn k]; exact q2)
            have w3 := fd_trans w2 c3
            obtain ⟨x17, m2, c4, c5, c6⟩ := x9_dayp (L := L) (law := law) (x := 0) (y := 0) c2 p1 (by rw [p2 24 (by omega)]; exact day) hv (by decide) (by rw [lawIF_fd hv w3]; exact l1) (l2.fd (by decide) w3) (fd_109 w3 W6)
            refine ⟨_, _, m2, ⟨rfl, rfl, by rw [st]; exact c5, fd_trans w3 c6⟩, fun F => ?_⟩
            have nd : ∀ s, s ≤ 1000003 → f_X9_nextDraw (Int32.ofNat s) = some (Int32.ofNat (nxn s)) := fun s hs => congrArg some (nxd_n hs)
            rw [f_X9_days_L66, if_neg (by rw [n_le (by omega) (by omega)]; omega), e24, Option.bind_some, lx, Option.bind_some, if_neg (by rw [n_le (by omega) (by omega)]; omega), nd _ d3, Option.bind_some, hs1, e77, rm2_n (by omega) (by omega) h0, Option.bind_some, nd _ b1, Option.bind_some, hs2, rm2_n (by omega) (by omega) h0, Option.bind_some, nd _ b2, Option.bind_some, hs3, show (3 : Int32) = Int32.ofNat 3 from rfl, n_rem (by omega) (by decide), Option.bind_some]
            unfold f_X9_days_J160
            have e4 : Int32.ofNat (s2 % n) - Int32.ofNat (s2 % n) / 4 * 4 + 1 = Int32.ofNat (s2 % n % 4 + 1) := by
              rw [show (4 : Int32) = Int32.ofNat 4 from rfl, n_rem (by omega) (by decide), show (1 : Int32) = Int32.ofNat 1 from rfl, n_add]
            rw [e4, st, show Int32.ofNat k + 1 = Int32.ofNat (k + 1) from n_add k 1]
            by_cases y2 : s3 % 3 = 2
            · rw [if_pos y2] at c1
              rw [if_pos (by rw [y2]; rfl), c1, b2_some, c4, b2_some]
            · rw [if_neg y2] at c1
              rw [if_neg (by rw [show (2 : Int32) = Int32.ofNat 2 from rfl, n_eq (by omega) (by omega)]; exact y2), c1, b2_some, c4, b2_some]
          · right
            intro F
            have stp := dlp_stop day (N - k)
            rw [show k + (N - k) = N by omega] at stp
            refine ⟨m, by rw [stp]; exact w1, w2, ?_⟩
            rw [f_X9_days_L66, if_neg (by rw [n_le (by omega) (by omega)]; omega), e24, Option.bind_some, lx, Option.bind_some, if_pos (by rw [n_le (by omega) (by omega)]; omega)]
            exact fin m (by rw [stp]; exact w1)
        · obtain ⟨rfl, rfl, w1, w2⟩ := hI
          refine ⟨m, w1, w2, ?_⟩
          rw [f_X9_days_L66, if_pos (by rw [n_le (by omega) (by omega)]; omega)]
          exact fin m w1
      obtain ⟨m, w1, w2, c9⟩ := s9
      generalize hm9 : hm_wI m 64 16 0 = m9 at c9
      have f9 : ∀ a j, ¬ (77 ≤ a ∧ a ≤ 86) → ¬ (106 ≤ a ∧ a ≤ 111) → ¬ (a = 64 ∧ (j = 4 ∨ j = 16)) → m9.1 a j = μ.1 a j := fun a j h1 h2 h3 => by
        rw [← hm9, wI_ne (by omega), w2.2 a j (by omega) (by omega) (by omega) (by omega) (by omega) (by omega) (by omega) (by omega), wI_ne (by omega)]
        exact g3 a j (by omega)
      have k9 : m9.1 181 = μ.1 181 := funext fun j => f9 181 j (by omega) (by omega) (by omega)
      have r9 : m9.2 = μ5.2 := by rw [← hm9]; exact w2.1
      have e54 : m9.1 181 54 = Int32.ofNat n := by rw [k9]; exact en
      have lay : ∀ m : hm_M, f_X10_laysAside (0 : Int32) m = some (cpm m 181 0 184 0 25) := fun m => cpy_loop (e := fun m => some m) (Or.inl (by decide)) (fun n i m hi => by simp (disch := omega) only [f_X10_laysAside_L2, Nat.zero_add, Nat.mul_zero, n_lit, i_lt, i_le, i_eq, n_toInt, n_neg, if_pos, if_neg, if_true, if_false, Option.bind_some, b2_some, pI_some, ld_n, sd_n, n_add, n_mul, n_sub, wI_ne, wI_eq, wI_r, wR_1, cpm_ne, cpm_eq, cpm_r, rf9_ne, and_true, true_and, rz_n0, rz_n1, pZ_n0, pZ_n1, v_rf9n, v_rf10n, -Int32.reduceOfNat]) (fun n m => by simp (disch := omega) only [f_X10_laysAside_L2, n_lit, i_lt, i_le, i_eq, n_toInt, n_neg, if_pos, if_neg, if_true, if_false, Option.bind_some, b2_some, pI_some, ld_n, sd_n, n_add, n_mul, n_sub, wI_ne, wI_eq, wI_r, wR_1, cpm_ne, cpm_eq, cpm_r, rf9_ne, and_true, true_and, rz_n0, rz_n1, pZ_n0, pZ_n1, v_rf9n, v_rf10n, -Int32.reduceOfNat]) (fu_lt (by decide)) m
      have bak : ∀ m : hm_M, f_X10_takesBack (0 : Int32) m = some (cpm m 184 0 181 0 25) := fun m => cpy_loop (e := fun m => some m) (Or.inl (by decide)) (fun n i m hi => by simp (disch := omega) only [f_X10_takesBack_L2, Nat.zero_add, Nat.mul_zero, n_lit, i_lt, i_le, i_eq, n_toInt, n_neg, if_pos, if_neg, if_true, if_false, Option.bind_some, b2_some, pI_some, ld_n, sd_n, n_add, n_mul, n_sub, wI_ne, wI_eq, wI_r, wR_1, cpm_ne, cpm_eq, cpm_r, rf9_ne, and_true, true_and, rz_n0, rz_n1, pZ_n0, pZ_n1, v_rf9n, v_rf10n, -Int32.reduceOfNat]) (fun n m => by simp (disch := omega) only [f_X10_takesBack_L2, n_lit, i_lt, i_le, i_eq, n_toInt, n_neg, if_pos, if_neg, if_true, if_false, Option.bind_some, b2_some, pI_some, ld_n, sd_n, n_add, n_mul, n_sub, wI_ne, wI_eq, wI_r, wR_1, cpm_ne, cpm_eq, cpm_r, rf9_ne, and_true, true_and, rz_n0, rz_n1, pZ_n0, pZ_n1, v_rf9n, v_rf10n, -Int32.reduceOfNat]) (fu_lt (by decide)) m
      have l96 : ∀ (e : hm_M → Option (Int32 × hm_M)) (w : Int32) (m : hm_M), f_X10_days_L96 (Int32.ofNat S) (Int32.ofNat N) w e hm_fu (Int32.ofNat 0) m = e (cpm m 181 0 204 0 25) := fun e w m => cpy_loop (Or.inl (by decide)) (fun n i m hi => by simp (disch := omega) only [f_X10_days_L96, Nat.zero_add, n_lit, i_lt, i_le, i_eq, n_toInt, n_neg, if_pos, if_neg, if_true, if_false, Option.bind_some, b2_some, pI_some, ld_n, sd_n, n_add, n_mul, n_sub, wI_ne, wI_eq, wI_r, wR_1, cpm_ne, cpm_eq, cpm_r, rf9_ne, and_true, true_and, rz_n0, rz_n1, pZ_n0, pZ_n1, v_rf9n, v_rf10n, -Int32.reduceOfNat]) (fun n m => by simp (disch := omega) only [f_X10_days_L96, n_lit, i_lt, i_le, i_eq, n_toInt, n_neg, if_pos, if_neg, if_true, if_false, Option.bind_some, b2_some, pI_some, ld_n, sd_n, n_add, n_mul, n_sub, wI_ne, wI_eq, wI_r, wR_1, cpm_ne, cpm_eq, cpm_r, rf9_ne, and_true, true_and, rz_n0, rz_n1, pZ_n0, pZ_n1, v_rf9n, v_rf10n, -Int32.reduceOfNat]) (fu_lt (by decide)) m
      have fin : ∀ m : hm_M, m.1 181 = (dlp L N (μ.1 181, S)).1 → f_X10_days_J88 (Int32.ofNat S) (Int32.ofNat N) m = some (Int32.ofNat (hc (dlp L N (μ.1 181, S)).1 n / 2), hm_wI (cpm (cpm m 181 0 204 0 25) 184 0 181 0 25) 179 0 0) := by
        intro m hm1
        have dD := (dl N).1
        unfold f_X10_days_J88
        rw [v_holdMany (by rw [hm1]; exact dD.1) (fun i hi => by rw [hm1]; exact (dD.2.1 i hi).2.2.2), Option.bind_some, hm1, dn N, show (0 : Int32) = Int32.ofNat 0 from rfl, l96, show Int32.ofNat 0 = (0 : Int32) from rfl, bak, Option.bind_some, v_gd10]
        rfl
      generalize hmA : cpm (hm_wI (hm_wI m9 179 55 (Int32.ofNat S)) 179 54 (Int32.ofNat n)) 181 0 184 0 25 = mA
      have kA : mA.1 181 = μ.1 181 := funext fun j => by rw [← hmA, cpm_ne (by omega), wI_ne (by omega), wI_ne (by omega), k9]
      have kA2 : mA.1 179 55 = Int32.ofNat S := by rw [← hmA, cpm_ne (by omega), wI_ne (by omega), wI_at]
      have s10 : ∃ m, m.1 181 = (dlp L N (μ.1 181, S)).1 ∧ fv mA m ∧ f_X10_days (Int32.ofNat S) (Int32.ofNat N) m9 = some (Int32.ofNat (hc (dlp L N (μ.1 181, S)).1 n / 2), hm_wI (cpm (cpm m 181 0 204 0 25) 184 0 181 0 25) 179 0 0) := by
        have z0 : Int32.ofNat n ≠ 0 := by rw [show (0 : Int32) = Int32.ofNat 0 from rfl]; intro z; rw [n_eq (by omega) (by omega)] at z; omega
        rw [st10, v_many e54, Option.bind_some, if_neg z0, pI_some, Option.bind_some, v_many (n := n) (by rw [wI_ne (by omega)]; exact e54), Option.bind_some, pI_some, Option.bind_some, lay, Option.bind_some, hmA]
        refine lo2 (L := f_X10_days_L60 (Int32.ofNat S) (Int32.ofNat N) _) (fun k y m => y = Int32.ofNat k ∧ m.1 181 = (dlp L k (μ.1 181, S)).1 ∧ m.1 179 55 = Int32.ofNat (dlp L k (μ.1 181, S)).2 ∧ fv mA m) (fun o => ∃ m, m.1 181 = (dlp L N (μ.1 181, S)).1 ∧ fv mA m ∧ o = some (Int32.ofNat (hc (dlp L N (μ.1 181, S)).1 n / 2), hm_wI (cpm (cpm m 181 0 204 0 25) 184 0 181 0 25) 179 0 0)) N (fun k y m hk hI => ?_) (fun y m hI F => ?_) (fu_lt (by omega)) ⟨rfl, kA, kA2, fv_refl _⟩
        · obtain ⟨rfl, w1, w2, w3⟩ := hI
          obtain ⟨d1, d2, d3⟩ := dl k
          have l24 := d1.2.2.1.1.2
          have e24 : hm_ld m 181 5665 24 = some (Int32.ofNat (nat ((dlp L k (μ.1 181, S)).1 24))) := by
            rw [show (24 : Int32) = Int32.ofNat 24 from rfl, ld_n (by decide) (by decide), w1]
            exact congrArg some d1.2.2.1.1.1
          have st : dlp L (k + 1) (μ.1 181, S) = if nat ((dlp L k (μ.1 181, S)).1 24) < 999 then (dps L (dst L (dlp L k (μ.1 181, S)).1 (nxn (dlp L k (μ.1 181, S)).2 % nat ((dlp L k (μ.1 181, S)).1 54)) (nxn (nxn (dlp L k (μ.1 181, S)).2) % nat ((dlp L k (μ.1 181, S)).1 54)) (nxn (nxn (nxn (dlp L k (μ.1 181, S)).2)) % 3)), nxn (nxn (nxn (dlp L k (μ.1 181, S)).2))) else dlp L k (μ.1 181, S) := rfl
          by_cases day : nat ((dlp L k (μ.1 181, S)).1 24) < 999
          · left
            rw [if_pos day, dn k] at st
            obtain ⟨m1, c1, c2, c3, c4⟩ := x10_time (L := L) w1 d1 (dn k) h0 day (FL_cong l3 fun j hj => d2 j (by omega)) w2 d3
            generalize nxn (nxn (nxn (dlp L k (μ.1 181, S)).2)) = s3 at st c2 c3
            refine ⟨_, m1, ⟨rfl, by rw [st]; exact c2, by rw [st]; exact c3, fv_trans w3 c4⟩, fun F => ?_⟩
            rw [f_X10_days_L60, if_neg (by rw [n_le (by omega) (by omega)]; omega), e24, Option.bind_some, show (999 : Int32) = Int32.ofNat 999 from rfl, if_neg (by rw [n_le (by omega) (by omega)]; omega), c1, Option.bind_some, show Int32.ofNat k + 1 = Int32.ofNat (k + 1) from n_add k 1]
          · right
            intro F
            have stp := dlp_stop day (N - k)
            rw [show k + (N - k) = N by omega] at stp
            refine ⟨m, by rw [stp]; exact w1, w3, ?_⟩
            rw [f_X10_days_L60, if_neg (by rw [n_le (by omega) (by omega)]; omega), e24, Option.bind_some, show (999 : Int32) = Int32.ofNat 999 from rfl, if_pos (by rw [n_le (by omega) (by omega)]; omega)]
            exact fin m (by rw [stp]; exact w1)
        · obtain ⟨rfl, w1, w2, w3⟩ := hI
          refine ⟨m, w1, w3, ?_⟩
          rw [f_X10_days_L60, if_pos (by rw [n_le (by omega) (by omega)]; omega)]
          exact fin m w1
      obtain ⟨mB, y1, ⟨y2, y3⟩, c10⟩ := s10
      generalize hmC : hm_wI (cpm (cpm mB 181 0 204 0 25) 184 0 181 0 25) 179 0 0 = mC at c10
      have fB : ∀ a j, a ≠ 181 → a ≠ 191 → a ≠ 192 → a ≠ 184 → ¬ (a = 179 ∧ ((22 ≤ j ∧ j ≤ 25) ∨ j = 54 ∨ j = 55)) → mB.1 a j = m9.1 a j := fun a j h1 h2 h3 h4 h5 => by
        rw [y3 a j h1 h2 h3 (by omega), ← hmA, cpm_ne (by omega), wI_ne (by omega), wI_ne (by omega)]
      have fC : ∀ a j, a ≠ 181 → a ≠ 191 → a ≠ 192 → a ≠ 184 → a ≠ 204 → ¬ (a = 179 ∧ ((22 ≤ j ∧ j ≤ 25) ∨ j = 54 ∨ j = 55 ∨ j = 0)) → mC.1 a j = m9.1 a j := fun a j h1 h2 h3 h4 h5 h6 => by
        rw [← hmC, wI_ne (by omega), cpm_ne (by omega), cpm_ne (by omega)]
        exact fB a j h1 h2 h3 h4 (by omega)
      have rC : mC.2 = μ5.2 := by
        rw [← hmC]
        show mB.2 = _
        rw [y2, ← hmA]
        exact r9
      have kC : mC.1 181 = μ.1 181 := funext fun j => by
        rw [← hmC, wI_ne (by omega)]
        by_cases y : j < 25
        · rw [cpm_eq rfl (by omega) (by omega), cpm_ne (by omega), y3 _ _ (by omega) (by omega) (by omega) (by omega), ← hmA, cpm_eq rfl (by omega) (by omega), wI_ne (by omega), wI_ne (by omega), k9, show 0 + (0 + (j - 0) - 0) = j by omega]
        · rw [cpm_ne (by omega), cpm_ne (by omega), y1]
          exact (dl N).2.1 j (by omega)
      have fA : ∀ a j, ¬ (77 ≤ a ∧ a ≤ 86) → ¬ (106 ≤ a ∧ a ≤ 111) → ¬ (a = 64 ∧ (j = 4 ∨ j = 16)) → a ≠ 191 → a ≠ 192 → a ≠ 184 → a ≠ 204 → ¬ (a = 179 ∧ ((22 ≤ j ∧ j ≤ 25) ∨ j = 54 ∨ j = 55 ∨ j = 0)) → mC.1 a j = μ.1 a j := fun a j h1 h2 h3 h4 h5 h6 h7 h8 => by
        by_cases y : a = 181
        · rw [y, kC]
        · rw [fC a j y h4 h5 h6 h7 h8]
          exact f9 a j h1 h2 h3
      have eL : hm_ln mC = hm_ln μ := by
        have e : mC.2.2.2 = μ.2.2.2 := by
          rw [rC]
          exact g2
        exact congrArg (fun z => z.2.2) e
      have eR : ∀ p t, p ≠ 83 → mC.2.2.1 p t = μ.2.2.1 p t := fun p t hp => by
        rw [rC]
        exact g9 p t hp
      have c77 : mC.1 77 0 = (dlp L N (μ.1 181, S)).1 54 := by
        rw [fC 77 0 (by omega) (by omega) (by omega) (by omega) (by omega) (by omega), ← hm9, wI_ne (by omega)]
        exact w1.1
      have t204 : ∀ k, k < 25 → mC.1 204 k = (dlp L N (μ.1 181, S)).1 k := fun k hk => by
        rw [← hmC, wI_ne (by omega), cpm_ne (by omega), cpm_eq rfl (by omega) (by omega), y1, show 0 + (k - 0) = k by omega]
      refine ⟨_, m9, mC, c9, c10, ?_, fun i hi => ?_, Or.inr ⟨?_, ?_, ?_, fun i hi => ?_⟩, a4.same (fun a j z => by unfold dS at z; exact fA a j (by omega) (by omega) (by omega) (by omega) (by omega) (by omega) (by omega) (by omega)), a5.same (fun a j z => by unfold dT at z; exact fA a j (by omega) (by omega) (by omega) (by omega) (by omega) (by omega) (by omega) (by omega)), pm_set a6 ?_ (fun a j z => by unfold dM at z; exact fA a j (by omega) (by omega) (by omega) (by omega) (by omega) (by omega) (by omega) (by omega)), a7.same (fun j => fA _ _ (by omega) (by omega) (by omega) (by omega) (by omega) (by omega) (by omega) (by omega))⟩
      · rw [kC]
        exact a1.keep eL (fun t ht => eR _ _ (by omega)) fun a j z => fA a j (by omega) (by omega) (by omega) (by omega) (by omega) (by omega) (by omega) (by omega)
      · obtain ⟨q1, q2⟩ := a2 i hi
        have e : ∀ j, mC.1 182 j = μ.1 182 j := fun j => fA _ _ (by omega) (by omega) (by omega) (by omega) (by omega) (by omega) (by omega) (by omega)
        rw [fA 76 i (by omega) (by omega) (by omega) (by omega) (by omega) (by omega) (by omega) (by omega), fA 183 i (by omega) (by omega) (by omega) (by omega) (by omega) (by omega) (by omega) (by omega)]
        refine ⟨q1, q2.imp id fun q => ⟨q.1, ?_⟩⟩
        simp only [e]
        exact q.2.keep eL (fun t ht => eR _ _ (by omega)) fun a j z => fA a j (by omega) (by omega) (by omega) (by omega) (by omega) (by omega) (by omega) (by omega)
      · rw [fC 64 4 (by omega) (by omega) (by omega) (by omega) (by omega) (by omega), ← hm9, wI_ne (by omega), w2.2 64 4 (by omega) (by omega) (by omega) (by omega) (by omega) (by omega) (by omega) (by omega), wI_at]
      · rw [← hmC, wI_ne (by omega), cpm_ne (by omega), cpm_ne (by omega), y3 _ _ (by omega) (by omega) (by omega) (by omega), ← hmA, cpm_ne (by omega), wI_at, hmC, c77, (dl N).2.1 54 (by omega)]
        exact en.symm
      · rw [c77]
        exact (dl N).1.1
      · rw [t204 i (by omega), t204 (8 + i) (by omega), t204 (16 + i) (by omega), fC 78 i (by omega) (by omega) (by omega) (by omega) (by omega) (by omega), fC 79 i (by omega) (by omega) (by omega) (by omega) (by omega) (by omega), fC 81 i (by omega) (by omega) (by omega) (by omega) (by omega) (by omega), ← hm9, wI_ne (by omega), wI_ne (by omega), wI_ne (by omega)]
        exact ⟨(w1.2.2.1 i hi).1, (w1.2.2.1 i hi).2.1, w1.2.1 i hi⟩
      · rw [fC 64 16 (by omega) (by omega) (by omega) (by omega) (by omega) (by omega), ← hm9, wI_at, ← hmC, wI_at]
  · have P1 : ∀ m, PP m → ∃ (r : Int32) (μ1 μ2 : hm_M), (hm_b2 (f_X9_refused (-1 : Int32) m) fun x2 μ3 => some (x2, μ3)) = some (r, μ1) ∧ (hm_b2 (f_X10_refuses (-1 : Int32) μ1) fun x3 μ4 => some (x3, μ4)) = some (r, μ2) ∧ PP μ2 := fun m hm => ⟨-1, rf9 (-1) m, rf10 (-1) (rf9 (-1) m), by rw [v_rf9 rk1]; rfl, by rw [v_rf10 rk1]; rfl, rf_PP rk1 hm⟩
    obtain ⟨r, μ1, μ2, e1, e2, e3⟩ := P1 μ h
    refine ⟨r, μ1, μ2, ?_, ?_, e3⟩
    · unfold f_X9_days
      by_cases q1 : v1 < 0
      · rw [if_pos q1]; exact e1
      · rw [if_neg q1]
        by_cases q2 : (1000000 : Int32) < v1
        · rw [if_pos q2]; exact e1
        · rw [if_neg q2]
          by_cases q3 : v2 < (1 : Int32)
          · rw [if_pos q3]; exact e1
          · rw [if_neg q3, if_neg]
            · exact e1
            · intro q4
              apply hcc
              simp only [i_lt, i_le, show (0 : Int32).toInt = 0 from rfl, show (1 : Int32).toInt = 1 from rfl, show (1000000 : Int32).toInt = 1000000 from rfl, show (60 : Int32).toInt = 60 from rfl] at *
              omega
    · unfold f_X10_days
      rw [v_lies]
      by_cases q1 : (0 : Int32).toInt ≤ v1.toInt ∧ v1.toInt ≤ (1000000 : Int32).toInt
      · rw [if_pos q1, Option.bind_some, if_neg (by decide), v_lies, if_neg (show ¬ ((1 : Int32).toInt ≤ v2.toInt ∧ v2.toInt ≤ (60 : Int32).toInt) from fun q2 => hcc ⟨q1, q2⟩)]
        exact e2
      · rw [if_neg q1]
        exact e2
end
