section
/-! A deed, both sides. -/
def F10 (d : Nat) (x y : Int32) (m : hm_M) : Option (Int32 × hm_M) := if d = 0 then f_X10_takesKept x y m else if d = 1 then f_X10_loosesKept x y m else if d = 2 then f_X10_walksKept x y m else f_X10_passesKept m
def D9 (L : List pc_K) (ρ : Nat → Int32) (d : Nat) (x y ans : Int32) (ρ1 : Nat → Int32) : Prop := ∀ (μ : hm_M) (v : Nat) (law : Option Nat), VD μ v ρ → vO v → v + 9 < 205 → f_X8_lawInForce v μ = some law → LJ μ law L → hm_ln μ 109 = 8 → ∃ μ1, f_X1_doOne v (Int32.ofNat d) x y μ = some (ans, μ1) ∧ VD μ1 v ρ1 ∧ fd v μ μ1
def D10 (ρ : Nat → Int32) (d : Nat) (x y ans : Int32) (ρ1 : Nat → Int32) : Prop := (rk ans ∧ ans ≠ -5 ∧ ans ≠ -6 ∧ ρ1 = ρ ∧ ∀ m, m.1 181 = ρ → ∃ m1, F10 d x y m = some (ans, m1) ∧ fq m m1) ∨ ((∃ k, ans = Int32.ofNat k ∧ k < 100000) ∧ DW ρ1 ∧ (∀ k, 25 ≤ k → ρ1 k = ρ k) ∧ ∀ m u, m.1 181 = ρ → m.1 179 33 = Int32.ofNat u → u ≤ 16 → ∃ mq mk m1, fq m mq ∧ f_X10_keeps (Int32.ofNat d) mq = some mk ∧ F10 d x y m = some (ans, m1) ∧ fr mk m1 ∧ m1.1 181 = ρ1)
theorem x10_P {m : hm_M} {ρ : Nat → Int32} (hρ : m.1 181 = ρ) (hD : DW ρ) (x : Int32) : f_X10_isPerson x m = some (if 0 ≤ x.toInt ∧ x.toInt < nat (ρ 54) then 1 else 0) := by
  subst hρ
  exact v_isP x hD.1
theorem hc_small {ρ : Nat → Int32} (hD : DW ρ) : hc ρ (nat (ρ 54)) / 2 < 100000 := by
  have h9 := hD.1.2
  have := hc_le (ρ := ρ) (fun i hi => (hD.2.1 i hi).2.2.2.2) (nat (ρ 54)) (by omega)
  omega
theorem drI_c (L : List pc_K) (a lo : Nat) (q : (Nat → Int32) × Nat) : ∀ k, (drI L a lo k q).2 ≤ q.2 + k
  | 0 => Nat.le_refl _
  | k + 1 => by
    have := drI_c L a lo q k
    unfold drI
    split
    · show (drI L a lo k q).2 + 1 ≤ _
      omega
    · omega
theorem drO_c (L : List pc_K) (n : Nat) (q : (Nat → Int32) × Nat) : ∀ k, k ≤ n → (drO L n k q).2 ≤ q.2 + k * n
  | 0, _ => by show q.2 ≤ _; omega
  | k + 1, h => by
    have h1 := drO_c L n q k (by omega)
    have h2 := drI_c L k (k + 1) (drO L n k q) (n - (k + 1))
    show (drI L k (k + 1) (n - (k + 1)) (drO L n k q)).2 ≤ _
    rw [Nat.succ_mul]
    omega
theorem n_neq {k : Nat} (hk : k < 100000) : ¬ Int32.ofNat k < 0 := n_nn (by omega)
theorem deed_0 {L : List pc_K} {ρ : Nat → Int32} (hD : DW ρ) (hL : FL ρ L) (x y : Int32) : ∃ ans ρ1, D9 L ρ 0 x y ans ρ1 ∧ D10 ρ 0 x y ans ρ1 := by
  have d0 : ∀ (v : Nat) (μ : hm_M), f_X1_doOne v (Int32.ofNat 0) x y μ = f_X1_takeHands v x y μ := by
    intro v μ
    unfold f_X1_doOne
    rw [if_neg (by decide), if_pos (show Int32.ofNat 0 = 0 from rfl)]
    cases f_X1_takeHands v x y μ with
    | none => rfl
    | some q => rfl
  by_cases exy : x = y
  · refine ⟨-1, ρ, fun μ v law h hv hv2 l1 l2 hW => ?_, Or.inl ⟨Or.inl rfl, by decide, by decide, rfl, fun m hm => ⟨m, ?_, fq_refl m⟩⟩⟩
    · obtain ⟨μ1, f, ⟨-, e, g⟩ | ⟨q, -⟩ | ⟨a, b, e1, e2, q, q1, q2, -⟩⟩ := x1_take h hD hv hv2 l1 l2 hW x y
      · exact ⟨μ1, by rw [d0]; exact e, g, f⟩
      · exact absurd exy q
      · have h9 := hD.1.2
        rw [e1, e2, n_eq (by omega) (by omega)] at exy
        exact absurd exy q
    · show f_X10_takesKept x y m = _
      unfold f_X10_takesKept
      rw [if_pos exy]
  · by_cases pp : (0 ≤ x.toInt ∧ x.toInt < nat (ρ 54)) ∧ 0 ≤ y.toInt ∧ y.toInt < nat (ρ 54)
    · obtain ⟨a, rfl, ea, la⟩ := v_of pp.1.1
      obtain ⟨b, rfl, eb, lb⟩ := v_of pp.2.1
      have hn9 := hD.1.2
      have ha : a < 8 := by omega
      have hb : b < 8 := by omega
      have hab : a ≠ b := fun z => exy (by rw [z])
      have st10 : ∀ m, m.1 181 = ρ → f_X10_takesKept (Int32.ofNat a) (Int32.ofNat b) m = hm_b2 (f_X10_canTake (Int32.ofNat a) (Int32.ofNat b) m) fun x4 μ5 => (if x4 = 0 then some ((-3 : Int32), μ5) else Option.bind (f_X10_keeps (0 : Int32) μ5) fun μ7 => Option.bind (f_X10_changesHold (Int32.ofNat a) (Int32.ofNat b) μ7) fun μ9 => hm_b2 (f_X10_lostOf (Int32.ofNat a) (Int32.ofNat b) μ9) fun x10 μ11 => some (x10, μ11)) := by
        intro m hm
        unfold f_X10_takesKept
        rw [if_neg exy, x10_P hm hD, if_pos pp.1, Option.bind_some, if_neg (by decide), x10_P hm hD, if_pos pp.2, Option.bind_some, if_neg (by decide)]
      cases ok : okT0 L ρ a b with
      | false =>
        refine ⟨-3, ρ, fun μ v law h hv hv2 l1 l2 hW => ?_, Or.inl ⟨Or.inr (Or.inr (Or.inl rfl)), by decide, by decide, rfl, fun m hm => ?_⟩⟩
        · obtain ⟨μ1, f, ⟨q, -⟩ | ⟨-, q, -⟩ | ⟨a', b', e1, e2, -, l1', l2', ⟨-, e, g⟩ | ⟨q, -⟩⟩⟩ := x1_take h hD hv hv2 l1 l2 hW (Int32.ofNat a) (Int32.ofNat b)
          · exact absurd q exy
          · exact absurd pp q
          · exact ⟨μ1, by rw [d0]; exact e, g, f⟩
          · rw [n_eq (by omega) (by omega)] at e1 e2
            subst e1; subst e2
            rw [ok] at q; cases q
        · obtain ⟨m1, f1, c1⟩ := x10_canT hm hD hL ha hb hab
          refine ⟨m1, ?_, f1⟩
          show f_X10_takesKept _ _ m = _
          rw [st10 m hm, c1, b2_some, ok]
          rfl
      | true =>
        have hD1 := rwx_D hD hab (by omega) (by omega)
        have sl := s_lost_le (L := L) hD1.b ha hb
        refine ⟨Int32.ofNat (s_lost L (rwx ρ a b) a b), rwx ρ a b, fun μ v law h hv hv2 l1 l2 hW => ?_, Or.inr ⟨⟨_, rfl, by omega⟩, hD1, fun k hk => rwx_ne (by omega) ha hb, fun m u hm hu hu2 => ?_⟩⟩
        · obtain ⟨μ1, f, ⟨q, -⟩ | ⟨-, q, -⟩ | ⟨a', b', e1, e2, -, l1', l2', ⟨q, -⟩ | ⟨-, e, g⟩⟩⟩ := x1_take h hD hv hv2 l1 l2 hW (Int32.ofNat a) (Int32.ofNat b)
          · exact absurd q exy
          · exact absurd pp q
          · rw [n_eq (by omega) (by omega)] at e1 e2
            subst e1; subst e2
            rw [ok] at q; cases q
          · rw [n_eq (by omega) (by omega)] at e1 e2
            subst e1; subst e2
            exact ⟨μ1, by rw [d0]; exact e, g, f⟩
        · obtain ⟨mq, f1, c1⟩ := x10_canT hm hD hL ha hb hab
          have kq : mq.1 181 = ρ := (fq_181 f1).trans hm
          obtain ⟨mk, k1, ⟨k2, k3⟩, k4⟩ := v_keeps (m := mq) (u := u) (d := 0) (by rw [f1.2 _ _ (by decide) (by omega)]; exact hu) hu2
          have kk : mk.1 181 = ρ := (funext fun j => k3 181 j (by decide) (by omega)).trans kq
          obtain ⟨m2, c2, g2, r2⟩ := v_chg (m := mk) (by rw [kk]; exact hD) ha hb hab
          rw [kk] at g2
          obtain ⟨m3, f3, c3⟩ := j10_lost (μ := m2) (a := a) (b := b) (L := L) ha hb (by rw [g2]; exact hD1.b) (by rw [g2]; exact FL_cong hL fun k hk => rwx_ne (by omega) ha hb)
          rw [g2] at c3
          refine ⟨mq, mk, m3, f1, k1, ?_, fr_trans r2 (fq_fr f3), (fq_181 f3).trans g2⟩
          show f_X10_takesKept _ _ m = _
          rw [st10 m hm, c1, b2_some, ok, if_neg (by decide), show f_X10_keeps 0 mq = _ from k1, Option.bind_some, c2, Option.bind_some, c3]
          rfl
    · refine ⟨-2, ρ, fun μ v law h hv hv2 l1 l2 hW => ?_, Or.inl ⟨Or.inr (Or.inl rfl), by decide, by decide, rfl, fun m hm => ⟨m, ?_, fq_refl m⟩⟩⟩
      · obtain ⟨μ1, f, ⟨q, -⟩ | ⟨-, -, e, g⟩ | ⟨a, b, rfl, rfl, q, q1, q2, -⟩⟩ := x1_take h hD hv hv2 l1 l2 hW x y
        · exact absurd q exy
        · exact ⟨μ1, by rw [d0]; exact e, g, f⟩
        · exfalso
          have h9 := hD.1.2
          apply pp
          rw [n_toInt (by omega), n_toInt (by omega)]
          omega
      · show f_X10_takesKept x y m = _
        unfold f_X10_takesKept
        rw [if_neg exy, x10_P hm hD, x10_P hm hD]
        by_cases p1 : 0 ≤ x.toInt ∧ x.toInt < nat (ρ 54)
        · rw [if_pos p1, Option.bind_some, if_neg (by decide), if_neg fun z => pp ⟨p1, z⟩]
          rfl
        · rw [if_neg p1]
          rfl
theorem deed_1 {L : List pc_K} {ρ : Nat → Int32} (hD : DW ρ) (x y : Int32) : ∃ ans ρ1, D9 L ρ 1 x y ans ρ1 ∧ D10 ρ 1 x y ans ρ1 := by
  have d0 : ∀ (v : Nat) (μ : hm_M), f_X1_doOne v (Int32.ofNat 1) x y μ = f_X1_looseHands v x y μ := by
    intro v μ
    unfold f_X1_doOne
    rw [if_neg (by decide), if_neg (by decide), if_pos (show Int32.ofNat 1 = 1 from rfl)]
    cases f_X1_looseHands v x y μ with
    | none => rfl
    | some q => rfl
  have h9 := hD.1.2
  by_cases exy : x = y
  · refine ⟨-1, ρ, fun μ v law h hv hv2 l1 l2 hW => ?_, Or.inl ⟨Or.inl rfl, by decide, by decide, rfl, fun m hm => ⟨m, ?_, fq_refl m⟩⟩⟩
    · obtain ⟨μ1, f, ⟨-, e, g⟩ | ⟨q, -⟩ | ⟨a, b, e1, e2, q, q1, q2, -⟩⟩ := x1_loose h hD hv x y
      · exact ⟨μ1, by rw [d0]; exact e, g, f⟩
      · exact absurd exy q
      · rw [e1, e2, n_eq (by omega) (by omega)] at exy
        exact absurd exy q
    · show f_X10_loosesKept x y m = _
      unfold f_X10_loosesKept
      rw [if_pos exy]
  · by_cases pp : (0 ≤ x.toInt ∧ x.toInt < nat (ρ 54)) ∧ 0 ≤ y.toInt ∧ y.toInt < nat (ρ 54)
    · obtain ⟨a, rfl, ea, la⟩ := v_of pp.1.1
      obtain ⟨b, rfl, eb, lb⟩ := v_of pp.2.1
      have ha : a < 8 := by omega
      have hb : b < 8 := by omega
      have hab : a ≠ b := fun z => exy (by rw [z])
      have k1 : hx ρ a < 256 := (hD.2.1 a ha).2.2.2.2
      have st10 : ∀ m, m.1 181 = ρ → f_X10_loosesKept (Int32.ofNat a) (Int32.ofNat b) m = (if zb ((hx ρ a).testBit b) = 0 then some ((-3 : Int32), m) else Option.bind (f_X10_keeps (1 : Int32) m) fun μ7 => Option.bind (f_X10_changesHold (Int32.ofNat a) (Int32.ofNat b) μ7) fun μ9 => Option.bind (f_X10_holdMany μ9) fun x10 => some (x10, μ9)) := by
        intro m hm
        have e1 : hm_ld m 181 5665 ((16 : Int32) + Int32.ofNat a) = some (Int32.ofNat (hx ρ a)) := by
          rw [show (16 : Int32) = Int32.ofNat 16 from rfl, n_add, ld_n (by omega) (by decide), hm]; exact congrArg some (hD.2.1 a ha).2.2.2.1
        unfold f_X10_loosesKept
        rw [if_neg exy, x10_P hm hD, if_pos pp.1, Option.bind_some, if_neg (by decide), x10_P hm hD, if_pos pp.2, Option.bind_some, if_neg (by decide), e1, Option.bind_some, v_isIn k1 hb, Option.bind_some]
      cases ok : (hx ρ a).testBit b with
      | false =>
        refine ⟨-3, ρ, fun μ v law h hv hv2 l1 l2 hW => ?_, Or.inl ⟨Or.inr (Or.inr (Or.inl rfl)), by decide, by decide, rfl, fun m hm => ⟨m, ?_, fq_refl m⟩⟩⟩
        · obtain ⟨μ1, f, ⟨q, -⟩ | ⟨-, q, -⟩ | ⟨a', b', e1, e2, -, l1', l2', ⟨-, e, g⟩ | ⟨q, -⟩⟩⟩ := x1_loose h hD hv (Int32.ofNat a) (Int32.ofNat b)
          · exact absurd q exy
          · exact absurd pp q
          · exact ⟨μ1, by rw [d0]; exact e, g, f⟩
          · rw [n_eq (by omega) (by omega)] at e1 e2
            subst e1; subst e2
            rw [ok] at q; cases q
        · show f_X10_loosesKept _ _ m = _
          rw [st10 m hm, ok]
          rfl
      | true =>
        have hD1 := rwx_D hD hab (by omega) (by omega)
        have e54 : rwx ρ a b 54 = ρ 54 := rwx_ne (by omega) ha hb
        have hcs := hc_small hD1
        rw [e54] at hcs
        refine ⟨Int32.ofNat (hc (rwx ρ a b) (nat (ρ 54)) / 2), rwx ρ a b, fun μ v law h hv hv2 l1 l2 hW => ?_, Or.inr ⟨⟨_, rfl, hcs⟩, hD1, fun k hk => rwx_ne (by omega) ha hb, fun m u hm hu hu2 => ?_⟩⟩
        · obtain ⟨μ1, f, ⟨q, -⟩ | ⟨-, q, -⟩ | ⟨a', b', e1, e2, -, l1', l2', ⟨q, -⟩ | ⟨-, e, g⟩⟩⟩ := x1_loose h hD hv (Int32.ofNat a) (Int32.ofNat b)
          · exact absurd q exy
          · exact absurd pp q
          · rw [n_eq (by omega) (by omega)] at e1 e2
            subst e1; subst e2
            rw [ok] at q; cases q
          · rw [n_eq (by omega) (by omega)] at e1 e2
            subst e1; subst e2
            exact ⟨μ1, by rw [d0]; exact e, g, f⟩
        · obtain ⟨mk, k1, ⟨k2, k3⟩, k4⟩ := v_keeps (m := m) (u := u) (d := 1) hu hu2
          have kk : mk.1 181 = ρ := (funext fun j => k3 181 j (by decide) (by omega)).trans hm
          obtain ⟨m2, c2, g2, r2⟩ := v_chg (m := mk) (by rw [kk]; exact hD) ha hb hab
          rw [kk] at g2
          refine ⟨m, mk, m2, fq_refl m, k1, ?_, r2, g2⟩
          show f_X10_loosesKept _ _ m = _
          rw [st10 m hm, ok, if_neg (by decide), show f_X10_keeps 1 m = _ from k1, Option.bind_some, c2, Option.bind_some, v_holdMany (by rw [g2]; exact hD1.1) (by rw [g2]; exact fun i hi => (hD1.2.1 i hi).2.2.2), Option.bind_some, g2, e54]
    · refine ⟨-2, ρ, fun μ v law h hv hv2 l1 l2 hW => ?_, Or.inl ⟨Or.inr (Or.inl rfl), by decide, by decide, rfl, fun m hm => ⟨m, ?_, fq_refl m⟩⟩⟩
      · obtain ⟨μ1, f, ⟨q, -⟩ | ⟨-, -, e, g⟩ | ⟨a, b, rfl, rfl, q, q1, q2, -⟩⟩ := x1_loose h hD hv x y
        · exact absurd q exy
        · exact ⟨μ1, by rw [d0]; exact e, g, f⟩
        · exfalso
          apply pp
          rw [n_toInt (by omega), n_toInt (by omega)]
          omega
      · show f_X10_loosesKept x y m = _
        unfold f_X10_loosesKept
        rw [if_neg exy, x10_P hm hD, x10_P hm hD]
        by_cases p1 : 0 ≤ x.toInt ∧ x.toInt < nat (ρ 54)
        · rw [if_pos p1, Option.bind_some, if_neg (by decide), if_neg fun z => pp ⟨p1, z⟩]
          rfl
        · rw [if_neg p1]
          rfl
end
