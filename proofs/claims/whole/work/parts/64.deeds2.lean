section
/-! Holds dropped, both sides. -/
theorem FL_cong {ρ ρ1 : Nat → Int32} {L : List pc_K} (h : FL ρ L) (e : ∀ k, 57 ≤ k → ρ1 k = ρ k) : FL ρ1 L := by
  rcases h with ⟨h1, h2⟩ | ⟨t, C, h1, h2, h3, h4, h5⟩
  · exact Or.inl ⟨by rw [e 57 (by omega)]; exact h1, h2⟩
  · refine Or.inr ⟨t, C, h1, by rw [e 57 (by omega)]; exact h2, ?_, ?_, ?_⟩
    · rw [e (58 + t) (by omega)]; exact h3
    · intro k hk
      rw [e (58 + t) (by omega)] at hk
      rw [e _ (by omega), e _ (by omega)]
      exact h4 k hk
    · rw [e (58 + t) (by omega), show (fun k => ρ1 (65 + 400 * t + k)) = (fun k => ρ (65 + 400 * t + k)) from funext fun k => e _ (by omega), show (fun k => ρ1 (2865 + 400 * t + k)) = (fun k => ρ (2865 + 400 * t + k)) from funext fun k => e _ (by omega)]
      exact h5
section
variable {μ : hm_M} {ρ : Nat → Int32} {L : List pc_K} {law : Option Nat} {v n : Nat}
theorem v_drop9 (h : VD μ v ρ) (hD : DW ρ) (hn : nat (ρ 54) = n) (hv : vO v) (hv2 : v + 9 < 205) (l1 : f_X8_lawInForce v μ = some law) (hL : LJ μ law L) (hW : hm_ln μ 109 = 8) : ∃ μ1, f_X1_dropHolds v μ = some (Int32.ofNat (drO L n n (ρ, 0)).2, μ1) ∧ VD μ1 v (drO L n n (ρ, 0)).1 ∧ fd v μ μ1 := by
  have hn9 := hD.1.2
  have e54 : ρ 54 = Int32.ofNat n := by rw [← hn]; exact hD.1.1
  have inner : ∀ (a : Nat) (q : (Nat → Int32) × Nat) (m : hm_M), a < n → DW q.1 → (∀ j, j < 16 ∨ 24 ≤ j → q.1 j = ρ j) → VD m v q.1 → fd v μ m → ∃ m2, (VD m2 v (drI L a (a + 1) (n - (a + 1)) q).1 ∧ fd v μ m2) ∧ ∀ κ : (Int32 → Int32 → hm_M → Option (Int32 × hm_M)) × (Int32 → hm_M → Option (Int32 × hm_M)) × (Int32 → hm_M → Option (Int32 × hm_M)), f_X1_dropHolds_L17 v (Int32.ofNat a) κ.1 κ.2.1 κ.2.2 hm_fu (Int32.ofNat q.2) (Int32.ofNat (a + 1)) m = κ.2.2 (Int32.ofNat (drI L a (a + 1) (n - (a + 1)) q).2) m2 := by
    intro a q m0 ha hq1 hq2 hq3 hf
    have qn : nat (q.1 54) = n := by rw [hq2 54 (by omega)]; exact hn
    suffices H : ∃ (x y : Int32) (m : hm_M), (x = Int32.ofNat (drI L a (a + 1) (n - (a + 1)) q).2 ∧ y = Int32.ofNat (a + 1 + (n - (a + 1))) ∧ VD m v (drI L a (a + 1) (n - (a + 1)) q).1 ∧ fd v μ m) ∧ ∀ κ : (Int32 → Int32 → hm_M → Option (Int32 × hm_M)) × (Int32 → hm_M → Option (Int32 × hm_M)) × (Int32 → hm_M → Option (Int32 × hm_M)), f_X1_dropHolds_L17 v (Int32.ofNat a) κ.1 κ.2.1 κ.2.2 hm_fu (Int32.ofNat q.2) (Int32.ofNat (a + 1)) m0 = κ.2.2 x m by
      obtain ⟨x, y, m, ⟨rfl, rfl, f⟩, e⟩ := H
      exact ⟨m, f, e⟩
    refine lu3 (L := fun (κ : (Int32 → Int32 → hm_M → Option (Int32 × hm_M)) × (Int32 → hm_M → Option (Int32 × hm_M)) × (Int32 → hm_M → Option (Int32 × hm_M))) => f_X1_dropHolds_L17 v (Int32.ofNat a) κ.1 κ.2.1 κ.2.2) (fun k x y m => x = Int32.ofNat (drI L a (a + 1) k q).2 ∧ y = Int32.ofNat (a + 1 + k) ∧ VD m v (drI L a (a + 1) k q).1 ∧ fd v μ m) (fun κ x y m => κ.2.2 x m) (n - (a + 1)) (fun k x y m hk hI => ?_) (fun x y m hI κ F => ?_) (fu_lt (by omega)) ⟨rfl, rfl, hq3, hf⟩
    · obtain ⟨rfl, rfl, g1, g2⟩ := hI
      obtain ⟨d1, d2⟩ := drI_D (L := L) (a := a) (lo := a + 1) hq1 qn (by omega) k (by omega)
      have e0 : m.1 v 0 = Int32.ofNat n := by rw [g1.1, d2 54 (by omega), hq2 54 (by omega), e54]
      have ek : Int32.ofNat (a + 1 + k) + 1 = Int32.ofNat (a + 1 + (k + 1)) := n_add _ 1
      have hh := v_hh g1 d1 (show a < 8 by omega) (show a + 1 + k < 8 by omega)
      have stp : drI L a (a + 1) (k + 1) q = if (hx (drI L a (a + 1) k q).1 a).testBit (a + 1 + k) = true ∧ s_can L (drI L a (a + 1) k q).1 a (a + 1 + k) = false then (rwx (drI L a (a + 1) k q).1 a (a + 1 + k), (drI L a (a + 1) k q).2 + 1) else drI L a (a + 1) k q := rfl
      cases hz : (hx (drI L a (a + 1) k q).1 a).testBit (a + 1 + k) with
      | false =>
        rw [hz, if_neg (by simp)] at stp
        refine ⟨_, _, m, ⟨rfl, rfl, by rw [stp]; exact g1, g2⟩, fun κ F => ?_⟩
        rw [f_X1_dropHolds_L17, e0, if_neg (by rw [n_le (by omega) (by omega)]; omega), hh, Option.bind_some, hz, if_pos (show zb false = 0 from rfl), stp]
        unfold f_X1_dropHolds_J64
        rw [ek]
      | true =>
        obtain ⟨m2, f2, e2⟩ := j9_can (μ := m) (a := a) (b := a + 1 + k) (L := L) (law := law) (v := v) (by omega) (by omega) (by omega) d1.b g1.2.2 hv (hL.fd hv2 g2) (fd_109 g2 hW)
        have g3 := g1.fj hv f2
        have g4 : fd v μ m2 := fd_trans g2 (fj_fd f2)
        cases hc : s_can L (drI L a (a + 1) k q).1 a (a + 1 + k) with
        | true =>
          rw [hc, if_neg (by simp)] at stp
          refine ⟨_, _, m2, ⟨rfl, rfl, by rw [stp]; exact g3, g4⟩, fun κ F => ?_⟩
          rw [f_X1_dropHolds_L17, e0, if_neg (by rw [n_le (by omega) (by omega)]; omega), hh, Option.bind_some, hz, if_neg (show ¬ zb true = 0 by decide), lawIF_fd hv g2, l1, Option.bind_some, e2, b2_some, hc, if_neg (show ¬ zb true = 0 by decide), stp]
          unfold f_X1_dropHolds_J64
          rw [ek]
        | false =>
          rw [hz, hc, if_pos ⟨rfl, rfl⟩] at stp
          obtain ⟨m3, p1, p2, p3⟩ := v_part g3 d1 hv (show a < 8 by omega) (show a + 1 + k < 8 by omega) (by omega) hz
          refine ⟨_, _, m3, ⟨rfl, rfl, by rw [stp]; exact p2, fd_trans g4 p3⟩, fun κ F => ?_⟩
          rw [f_X1_dropHolds_L17, e0, if_neg (by rw [n_le (by omega) (by omega)]; omega), hh, Option.bind_some, hz, if_neg (show ¬ zb true = 0 by decide), lawIF_fd hv g2, l1, Option.bind_some, e2, b2_some, hc, if_pos (show zb false = 0 from rfl), p1, Option.bind_some, stp]
          unfold f_X1_dropHolds_J64
          rw [ek, show Int32.ofNat (drI L a (a + 1) k q).2 + 1 = Int32.ofNat ((drI L a (a + 1) k q).2 + 1) from n_add _ 1]
    · obtain ⟨rfl, rfl, g1, g2⟩ := hI
      obtain ⟨d1, d2⟩ := drI_D (L := L) (a := a) (lo := a + 1) hq1 qn (by omega) (n - (a + 1)) (by omega)
      have e0 : m.1 v 0 = Int32.ofNat n := by rw [g1.1, d2 54 (by omega), hq2 54 (by omega), e54]
      rw [f_X1_dropHolds_L17, e0, if_pos (by rw [n_le (by omega) (by omega)]; omega)]
  unfold f_X1_dropHolds
  refine lo3 (L := f_X1_dropHolds_L4 v (fun z9_2 μz9 => some (z9_2, μz9))) (fun k x y m => x = Int32.ofNat (drO L n k (ρ, 0)).2 ∧ y = Int32.ofNat k ∧ VD m v (drO L n k (ρ, 0)).1 ∧ fd v μ m) (fun o => ∃ μ1, o = some (Int32.ofNat (drO L n n (ρ, 0)).2, μ1) ∧ VD μ1 v (drO L n n (ρ, 0)).1 ∧ fd v μ μ1) n (fun k x y m hk hI => Or.inl ?_) (fun x y m hI F => ?_) (fu_lt (by omega)) ⟨rfl, rfl, h, fd_refl v μ⟩
  · obtain ⟨rfl, rfl, g1, g2⟩ := hI
    obtain ⟨d1, d2⟩ := drO_D (L := L) (q := (ρ, 0)) hD hn k (by omega)
    have e0 : m.1 v 0 = Int32.ofNat n := by rw [g1.1, d2 54 (by omega)]; exact e54
    obtain ⟨m2, ⟨g3, g4⟩, e2⟩ := inner k (drO L n k (ρ, 0)) m hk d1 d2 g1 g2
    refine ⟨_, _, m2, ⟨rfl, rfl, g3, g4⟩, fun F => ?_⟩
    rw [f_X1_dropHolds_L4, e0, if_neg (by rw [n_le (by omega) (by omega)]; omega), show Int32.ofNat k + 1 = Int32.ofNat (k + 1) from n_add k 1]
    exact e2 (_, _, _)
  · obtain ⟨rfl, rfl, g1, g2⟩ := hI
    obtain ⟨d1, d2⟩ := drO_D (L := L) (q := (ρ, 0)) hD hn n (by omega)
    have e0 : m.1 v 0 = Int32.ofNat n := by rw [g1.1, d2 54 (by omega)]; exact e54
    refine ⟨m, ?_, g1, g2⟩
    rw [f_X1_dropHolds_L4, e0, if_pos (by rw [n_le (by omega) (by omega)]; omega)]
theorem v_drop10 (hρ : μ.1 181 = ρ) (hD : DW ρ) (hn : nat (ρ 54) = n) (hL : FL ρ L) : ∃ μ1, f_X10_loosesAll μ = some (Int32.ofNat (drO L n n (ρ, 0)).2, μ1) ∧ μ1.1 181 = (drO L n n (ρ, 0)).1 ∧ fr μ μ1 := by
  have hn9 := hD.1.2
  have e54 : ρ 54 = Int32.ofNat n := by rw [← hn]; exact hD.1.1
  have inner : ∀ (a : Nat) (q : (Nat → Int32) × Nat) (m : hm_M), a < n → DW q.1 → (∀ j, j < 16 ∨ 24 ≤ j → q.1 j = ρ j) → m.1 181 = q.1 → fr μ m → ∃ m2, (m2.1 181 = (drI L a (a + 1) (n - (a + 1)) q).1 ∧ fr μ m2) ∧ ∀ κ : (Int32 → Int32 → hm_M → Option (Int32 × hm_M)) × (Int32 → hm_M → Option (Int32 × hm_M)) × (Int32 → hm_M → Option (Int32 × hm_M)), f_X10_loosesAll_L16 (Int32.ofNat a) κ.1 κ.2.1 κ.2.2 hm_fu (Int32.ofNat q.2) (Int32.ofNat (a + 1)) m = κ.2.2 (Int32.ofNat (drI L a (a + 1) (n - (a + 1)) q).2) m2 := by
    intro a q m0 ha hq1 hq2 hq3 hf
    have qn : nat (q.1 54) = n := by rw [hq2 54 (by omega)]; exact hn
    suffices H : ∃ (x y : Int32) (m : hm_M), (x = Int32.ofNat (drI L a (a + 1) (n - (a + 1)) q).2 ∧ y = Int32.ofNat (a + 1 + (n - (a + 1))) ∧ m.1 181 = (drI L a (a + 1) (n - (a + 1)) q).1 ∧ fr μ m) ∧ ∀ κ : (Int32 → Int32 → hm_M → Option (Int32 × hm_M)) × (Int32 → hm_M → Option (Int32 × hm_M)) × (Int32 → hm_M → Option (Int32 × hm_M)), f_X10_loosesAll_L16 (Int32.ofNat a) κ.1 κ.2.1 κ.2.2 hm_fu (Int32.ofNat q.2) (Int32.ofNat (a + 1)) m0 = κ.2.2 x m by
      obtain ⟨x, y, m, ⟨rfl, rfl, f⟩, e⟩ := H
      exact ⟨m, f, e⟩
    refine lu3 (L := fun (κ : (Int32 → Int32 → hm_M → Option (Int32 × hm_M)) × (Int32 → hm_M → Option (Int32 × hm_M)) × (Int32 → hm_M → Option (Int32 × hm_M))) => f_X10_loosesAll_L16 (Int32.ofNat a) κ.1 κ.2.1 κ.2.2) (fun k x y m => x = Int32.ofNat (drI L a (a + 1) k q).2 ∧ y = Int32.ofNat (a + 1 + k) ∧ m.1 181 = (drI L a (a + 1) k q).1 ∧ fr μ m) (fun κ x y m => κ.2.2 x m) (n - (a + 1)) (fun k x y m hk hI => ?_) (fun x y m hI κ F => ?_) (fu_lt (by omega)) ⟨rfl, rfl, hq3, hf⟩
    · obtain ⟨rfl, rfl, g1, g2⟩ := hI
      obtain ⟨d1, d2⟩ := drI_D (L := L) (a := a) (lo := a + 1) hq1 qn (by omega) k (by omega)
      have e0 : f_X10_many m = some (Int32.ofNat n) := v_many (by rw [g1, d2 54 (by omega), hq2 54 (by omega), e54])
      have ek : Int32.ofNat (a + 1 + k) + 1 = Int32.ofNat (a + 1 + (k + 1)) := n_add _ 1
      have l1 : hx (drI L a (a + 1) k q).1 a < 256 := (d1.2.1 a (by omega)).2.2.2.2
      have hld : hm_ld m 181 5665 ((16 : Int32) + Int32.ofNat a) = some (Int32.ofNat (hx (drI L a (a + 1) k q).1 a)) := by
        rw [show (16 : Int32) = Int32.ofNat 16 from rfl, n_add, ld_n (by omega) (by decide), g1]
        exact congrArg some (d1.2.1 a (by omega)).2.2.2.1
      have hh := v_isIn l1 (show a + 1 + k < 8 by omega)
      have stp : drI L a (a + 1) (k + 1) q = if (hx (drI L a (a + 1) k q).1 a).testBit (a + 1 + k) = true ∧ s_can L (drI L a (a + 1) k q).1 a (a + 1 + k) = false then (rwx (drI L a (a + 1) k q).1 a (a + 1 + k), (drI L a (a + 1) k q).2 + 1) else drI L a (a + 1) k q := rfl
      cases hz : (hx (drI L a (a + 1) k q).1 a).testBit (a + 1 + k) with
      | false =>
        rw [hz, if_neg (by simp)] at stp
        refine ⟨_, _, m, ⟨rfl, rfl, by rw [stp]; exact g1, g2⟩, fun κ F => ?_⟩
        rw [f_X10_loosesAll_L16, e0, Option.bind_some, if_neg (by rw [n_le (by omega) (by omega)]; omega), hld, Option.bind_some, hh, Option.bind_some, hz, if_pos (show zb false = 0 from rfl), stp]
        unfold f_X10_loosesAll_J61
        rw [ek]
      | true =>
        obtain ⟨m2, f2, e2⟩ := j10_can (μ := m) (a := a) (b := a + 1 + k) (L := L) (by omega) (by omega) (by rw [g1]; exact d1.b) (by rw [g1]; exact FL_cong hL fun j hj => (d2 j (by omega)).trans (hq2 j (by omega)))
        rw [g1] at e2
        have g3 : m2.1 181 = (drI L a (a + 1) k q).1 := (fq_181 f2).trans g1
        have g4 : fr μ m2 := fr_trans g2 (fq_fr f2)
        cases hc : s_can L (drI L a (a + 1) k q).1 a (a + 1 + k) with
        | true =>
          rw [hc, if_neg (by simp)] at stp
          refine ⟨_, _, m2, ⟨rfl, rfl, by rw [stp]; exact g3, g4⟩, fun κ F => ?_⟩
          rw [f_X10_loosesAll_L16, e0, Option.bind_some, if_neg (by rw [n_le (by omega) (by omega)]; omega), hld, Option.bind_some, hh, Option.bind_some, hz, if_neg (show ¬ zb true = 0 by decide), e2, b2_some, hc, if_neg (show ¬ zb true = 0 by decide), stp]
          unfold f_X10_loosesAll_J61
          rw [ek]
        | false =>
          rw [hz, hc, if_pos ⟨rfl, rfl⟩] at stp
          obtain ⟨m3, p1, p2, p3⟩ := v_chg (m := m2) (by rw [g3]; exact d1) (show a < 8 by omega) (show a + 1 + k < 8 by omega) (by omega)
          refine ⟨_, _, m3, ⟨rfl, rfl, by rw [stp, p2, g3], fr_trans g4 p3⟩, fun κ F => ?_⟩
          rw [f_X10_loosesAll_L16, e0, Option.bind_some, if_neg (by rw [n_le (by omega) (by omega)]; omega), hld, Option.bind_some, hh, Option.bind_some, hz, if_neg (show ¬ zb true = 0 by decide), e2, b2_some, hc, if_pos (show zb false = 0 from rfl), p1, Option.bind_some, stp]
          unfold f_X10_loosesAll_J61
          rw [ek, show Int32.ofNat (drI L a (a + 1) k q).2 + 1 = Int32.ofNat ((drI L a (a + 1) k q).2 + 1) from n_add _ 1]
    · obtain ⟨rfl, rfl, g1, g2⟩ := hI
      obtain ⟨d1, d2⟩ := drI_D (L := L) (a := a) (lo := a + 1) hq1 qn (by omega) (n - (a + 1)) (by omega)
      have e0 : f_X10_many m = some (Int32.ofNat n) := v_many (by rw [g1, d2 54 (by omega), hq2 54 (by omega), e54])
      rw [f_X10_loosesAll_L16, e0, Option.bind_some, if_pos (by rw [n_le (by omega) (by omega)]; omega)]
  unfold f_X10_loosesAll
  refine lo3 (L := f_X10_loosesAll_L4 (fun z11_1 μz11 => some (z11_1, μz11))) (fun k x y m => x = Int32.ofNat (drO L n k (ρ, 0)).2 ∧ y = Int32.ofNat k ∧ m.1 181 = (drO L n k (ρ, 0)).1 ∧ fr μ m) (fun o => ∃ μ1, o = some (Int32.ofNat (drO L n n (ρ, 0)).2, μ1) ∧ μ1.1 181 = (drO L n n (ρ, 0)).1 ∧ fr μ μ1) n (fun k x y m hk hI => Or.inl ?_) (fun x y m hI F => ?_) (fu_lt (by omega)) ⟨rfl, rfl, hρ, fr_refl μ⟩
  · obtain ⟨rfl, rfl, g1, g2⟩ := hI
    obtain ⟨d1, d2⟩ := drO_D (L := L) (q := (ρ, 0)) hD hn k (by omega)
    have e0 : f_X10_many m = some (Int32.ofNat n) := v_many (by rw [g1, d2 54 (by omega)]; exact e54)
    obtain ⟨m2, ⟨g3, g4⟩, e2⟩ := inner k (drO L n k (ρ, 0)) m hk d1 d2 g1 g2
    refine ⟨_, _, m2, ⟨rfl, rfl, g3, g4⟩, fun F => ?_⟩
    rw [f_X10_loosesAll_L4, e0, Option.bind_some, if_neg (by rw [n_le (by omega) (by omega)]; omega), show Int32.ofNat k + 1 = Int32.ofNat (k + 1) from n_add k 1]
    exact e2 (_, _, _)
  · obtain ⟨rfl, rfl, g1, g2⟩ := hI
    obtain ⟨d1, d2⟩ := drO_D (L := L) (q := (ρ, 0)) hD hn n (by omega)
    have e0 : f_X10_many m = some (Int32.ofNat n) := v_many (by rw [g1, d2 54 (by omega)]; exact e54)
    refine ⟨m, ?_, g1, g2⟩
    rw [f_X10_loosesAll_L4, e0, Option.bind_some, if_pos (by rw [n_le (by omega) (by omega)]; omega)]
end
end
