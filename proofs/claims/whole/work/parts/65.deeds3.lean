section
/-! take, loose, walk, pass: what is done. -/
def isP (ρ : Nat → Int32) (x : Int32) : Prop := 0 ≤ x.toInt ∧ x.toInt < nat (ρ 54)
/-- a day -/
def rti (L : List pc_K) (ρ : Nat → Int32) (n k : Nat) : Int32 := if 8 ≤ k ∧ k < 8 + n then Int32.ofNat (nat (ρ k) - s_tire L ρ (k - 8)) else ρ k
def rdy (ρ : Nat → Int32) (k : Nat) : Int32 := if k = 24 then Int32.ofNat (nat (ρ 24) + 1) else ρ k
def rcl (ρ : Nat → Int32) (p c : Nat) (k : Nat) : Int32 := if k = p then Int32.ofNat c else ρ k
theorem rcl_D {ρ : Nat → Int32} (hD : DW ρ) {p c : Nat} (hp : p < 8) (hc : c < 25) : DW (rcl ρ p c) := by
  have e : ∀ k, 8 ≤ k → rcl ρ p c k = ρ k := fun k hk => if_neg (by omega)
  refine ⟨by rw [e 54 (by omega)]; exact hD.1, fun i hi => ?_, by rw [e 24 (by omega), e 52 (by omega)]; exact hD.2.2.1, fun a b ha hb => ?_, fun a b ha => ?_⟩
  · rw [e (8 + i) (by omega), e (25 + i) (by omega), e (16 + i) (by omega)]
    refine ⟨?_, (hD.2.1 i hi).2⟩
    unfold rcl
    split
    · exact bd_n hc (by decide)
    · exact (hD.2.1 i hi).1
  · rw [e _ (by omega), e _ (by omega)]; exact hD.2.2.2.1 a b ha hb
  · rw [e _ (by omega), e _ (by omega)]; exact hD.2.2.2.2 a b ha
theorem rti_D {L : List pc_K} {ρ : Nat → Int32} {n : Nat} (hD : DW ρ) (hn : n ≤ 8) (hd : nat (ρ 24) < 999) : DW (rdy (rti L ρ n)) := by
  have e : ∀ k, k < 8 ∨ (16 ≤ k ∧ k ≠ 24) → rdy (rti L ρ n) k = ρ k := fun k hk => by
    unfold rdy rti
    rw [if_neg (by omega), if_neg (by omega)]
  refine ⟨by rw [e 54 (by omega)]; exact hD.1, fun i hi => ?_, ⟨?_, by rw [e 52 (by omega)]; exact hD.2.2.1.2⟩, fun a b ha hb => ?_, fun a b ha => ?_⟩
  · rw [e i (by omega), e (25 + i) (by omega), e (16 + i) (by omega)]
    obtain ⟨q1, q2, q3, q4⟩ := hD.2.1 i hi
    refine ⟨q1, ?_, q3, q4⟩
    have := q2.2
    unfold rdy rti
    rw [if_neg (by omega)]
    split
    · exact bd_n (by omega) (by decide)
    · exact q2
  · unfold rdy rti
    rw [if_pos rfl, if_neg (by omega)]
    exact bd_n (by omega) (by decide)
  · rw [e _ (by omega), e _ (by omega)]; exact hD.2.2.2.1 a b ha hb
  · rw [e _ (by omega), e _ (by omega)]; exact hD.2.2.2.2 a b ha
/-- the cell a way off -/
def wce (c w : Nat) : Nat := if w = 1 then (if c + 5 < 25 then c + 5 else 99) else if w = 2 then (if c % 5 < 4 then c + 1 else 99) else if w = 3 then (if 5 ≤ c then c - 5 else 99) else (if 0 < c % 5 then c - 1 else 99)
theorem v_cellAt : ∀ c, c < 25 → ∀ w, w < 5 → 1 ≤ w → f_X10_cellAt (Int32.ofNat c) (Int32.ofNat w) = some (if wce c w = 99 then -1 else Int32.ofNat (wce c w)) := by decide +kernel
theorem wce_lt : ∀ c, c < 25 → ∀ w, w < 5 → wce c w < 25 ∨ wce c w = 99 := by decide +kernel
/-- step by step: across, along -/
theorem v_stepc : ∀ c, c < 25 → ∀ w, w < 5 → 1 ≤ w → (Option.bind (hm_ldX 2 (Int32.ofNat w)) fun x4 => Option.bind (some ((Int32.ofNat c - Int32.ofNat c / (5 : Int32) * (5 : Int32)) + x4)) fun x5 => Option.bind (hm_ldX 3 (Int32.ofNat w)) fun x7 => (if x5 < 0 then some (-3 : Int32) else (if (5 : Int32) ≤ x5 then some (-3) else (if ((Int32.ofNat c / (5 : Int32)) + x7) < 0 then some (-3) else (if ((Int32.ofNat c / (5 : Int32)) + x7) < (5 : Int32) then some (((5 : Int32) * ((Int32.ofNat c / (5 : Int32)) + x7)) + x5) else some (-3)))))) = some (if wce c w = 99 then -3 else Int32.ofNat (wce c w)) := by decide +kernel
def okT0 (L : List pc_K) (ρ : Nat → Int32) (a b : Nat) : Bool := (decide (pop (hx ρ a) < 2) && decide (pop (hx ρ b) < 2)) && (!(hx ρ a).testBit b && s_can L ρ a b)
section
variable {μ : hm_M} {ρ : Nat → Int32} {L : List pc_K} {law : Option Nat} {v n : Nat}
theorem has_P (h : VD μ v ρ) (hD : DW ρ) (x : Int32) : f_X8_has v x μ = some (if 0 ≤ x.toInt ∧ x.toInt < nat (ρ 54) then 1 else 0) := by rw [v_has, h.1, bd_int hD.1 (by decide)]
theorem x1_take (h : VD μ v ρ) (hD : DW ρ) (hv : vO v) (hv2 : v + 9 < 205) (l1 : f_X8_lawInForce v μ = some law) (hL : LJ μ law L) (hW : hm_ln μ 109 = 8) (x y : Int32) : ∃ μ1, fd v μ μ1 ∧ ((x = y ∧ f_X1_takeHands v x y μ = some (-1, μ1) ∧ VD μ1 v ρ) ∨ (x ≠ y ∧ ¬ (isP ρ x ∧ isP ρ y) ∧ f_X1_takeHands v x y μ = some (-2, μ1) ∧ VD μ1 v ρ) ∨ ∃ a b, x = Int32.ofNat a ∧ y = Int32.ofNat b ∧ a ≠ b ∧ a < nat (ρ 54) ∧ b < nat (ρ 54) ∧ ((okT0 L ρ a b = false ∧ f_X1_takeHands v x y μ = some (-3, μ1) ∧ VD μ1 v ρ) ∨ (okT0 L ρ a b = true ∧ f_X1_takeHands v x y μ = some (Int32.ofNat (s_lost L (rwx ρ a b) a b), μ1) ∧ VD μ1 v (rwx ρ a b)))) := by
  by_cases exy : x = y
  · exact ⟨μ, fd_refl v μ, Or.inl ⟨exy, by unfold f_X1_takeHands; rw [if_pos exy], h⟩⟩
  · by_cases p1 : 0 ≤ x.toInt ∧ x.toInt < nat (ρ 54)
    · by_cases p2 : 0 ≤ y.toInt ∧ y.toInt < nat (ρ 54)
      · obtain ⟨a, rfl, ea, la⟩ := v_of p1.1
        obtain ⟨b, rfl, eb, lb⟩ := v_of p2.1
        have hn9 := hD.1.2
        have ha : a < 8 := by omega
        have hb : b < 8 := by omega
        have hab : a ≠ b := fun z => exy (by rw [z])
        have k1 : hx ρ a < 256 := (hD.2.1 a ha).2.2.2.2
        have k2 : hx ρ b < 256 := (hD.2.1 b hb).2.2.2.2
        have e1 : hm_ld μ (v + 4) 8 (Int32.ofNat a) = some (Int32.ofNat (hx ρ a)) := by
          rw [ld_n ha (by decide), h.2.1 a ha]; exact congrArg some (hD.2.1 a ha).2.2.2.1
        have e2 : hm_ld μ (v + 4) 8 (Int32.ofNat b) = some (Int32.ofNat (hx ρ b)) := by
          rw [ld_n hb (by decide), h.2.1 b hb]; exact congrArg some (hD.2.1 b hb).2.2.2.1
        have pl1 := pop_le _ k1
        have pl2 := pop_le _ k2
        have start : f_X1_takeHands v (Int32.ofNat a) (Int32.ofNat b) μ = f_X1_takeHands_J57 v (Int32.ofNat a) (Int32.ofNat b) (zb (decide (pop (hx ρ a) < 2) && decide (pop (hx ρ b) < 2))) μ := by
          unfold f_X1_takeHands f_X1_takeHands_J56
          rw [if_neg exy, has_P h hD, has_P h hD, if_pos p1, if_pos p2, Option.bind_some, if_neg (by decide), Option.bind_some, if_neg (by decide), e1, Option.bind_some, v_popJ _ k1, Option.bind_some, e2]
          by_cases q1 : pop (hx ρ a) < 2
          · rw [if_neg (by rw [show (2 : Int32) = Int32.ofNat 2 from rfl, n_le (by omega) (by omega)]; omega), Option.bind_some, v_popJ _ k2, Option.bind_some, decide_eq_true q1]
            by_cases q2 : pop (hx ρ b) < 2
            · rw [if_neg (by rw [show (2 : Int32) = Int32.ofNat 2 from rfl, n_le (by omega) (by omega)]; omega), decide_eq_true q2]
              rfl
            · rw [if_pos (by rw [show (2 : Int32) = Int32.ofNat 2 from rfl, n_le (by omega) (by omega)]; omega), decide_eq_false q2]
              rfl
          · rw [if_pos (by rw [show (2 : Int32) = Int32.ofNat 2 from rfl, n_le (by omega) (by omega)]; omega), decide_eq_false q1]
            rfl
        have hh := v_hh h hD ha hb
        have tl : ∀ μ1, fd v μ μ1 → (okT0 L ρ a b = false ∧ f_X1_takeHands v (Int32.ofNat a) (Int32.ofNat b) μ = some (-3, μ1) ∧ VD μ1 v ρ) ∨ (okT0 L ρ a b = true ∧ f_X1_takeHands v (Int32.ofNat a) (Int32.ofNat b) μ = some (Int32.ofNat (s_lost L (rwx ρ a b) a b), μ1) ∧ VD μ1 v (rwx ρ a b)) → ∃ μ1, fd v μ μ1 ∧ ((Int32.ofNat a = Int32.ofNat b ∧ f_X1_takeHands v (Int32.ofNat a) (Int32.ofNat b) μ = some (-1, μ1) ∧ VD μ1 v ρ) ∨ (Int32.ofNat a ≠ Int32.ofNat b ∧ ¬ (isP ρ (Int32.ofNat a) ∧ isP ρ (Int32.ofNat b)) ∧ f_X1_takeHands v (Int32.ofNat a) (Int32.ofNat b) μ = some (-2, μ1) ∧ VD μ1 v ρ) ∨ ∃ a' b', Int32.ofNat a = Int32.ofNat a' ∧ Int32.ofNat b = Int32.ofNat b' ∧ a' ≠ b' ∧ a' < nat (ρ 54) ∧ b' < nat (ρ 54) ∧ ((okT0 L ρ a' b' = false ∧ f_X1_takeHands v (Int32.ofNat a) (Int32.ofNat b) μ = some (-3, μ1) ∧ VD μ1 v ρ) ∨ (okT0 L ρ a' b' = true ∧ f_X1_takeHands v (Int32.ofNat a) (Int32.ofNat b) μ = some (Int32.ofNat (s_lost L (rwx ρ a' b') a' b'), μ1) ∧ VD μ1 v (rwx ρ a' b')))) := fun μ1 f alt => ⟨μ1, f, Or.inr (Or.inr ⟨a, b, rfl, rfl, hab, by omega, by omega, alt⟩)⟩
        cases hf : (decide (pop (hx ρ a) < 2) && decide (pop (hx ρ b) < 2)) with
        | false =>
          refine tl μ (fd_refl v μ) (Or.inl ⟨by unfold okT0; rw [hf]; rfl, ?_, h⟩)
          rw [start, hf]
          unfold f_X1_takeHands_J57
          rw [l1]
          rfl
        | true =>
          cases hz : (hx ρ a).testBit b with
          | true =>
            refine tl μ (fd_refl v μ) (Or.inl ⟨by unfold okT0; rw [hz]; simp, ?_, h⟩)
            rw [start, hf]
            unfold f_X1_takeHands_J57
            rw [l1, Option.bind_some, if_neg (by decide), hh, Option.bind_some, hz, if_neg (by decide)]
          | false =>
            obtain ⟨m2, f2, c2⟩ := j9_can (μ := μ) (a := a) (b := b) (L := L) (law := law) (v := v) ha hb hab hD.b h.2.2 hv hL hW
            have h2 := h.fj hv f2
            cases hc : s_can L ρ a b with
            | false =>
              refine tl m2 (fj_fd f2) (Or.inl ⟨by unfold okT0; rw [hc]; simp, ?_, h2⟩)
              rw [start, hf]
              unfold f_X1_takeHands_J57
              rw [l1, Option.bind_some, if_neg (by decide), hh, Option.bind_some, hz, if_pos (show zb false = 0 from rfl), c2, b2_some, hc, if_pos (show zb false = 0 from rfl)]
            | true =>
              obtain ⟨m3, j1, j2, j3⟩ := v_join h2 hD hv ha hb hab hz
              have f3 := fd_trans (fj_fd f2) j3
              have hD3 := rwx_D hD hab (by omega) (by omega)
              obtain ⟨m4, f4, c4⟩ := j9_lost (μ := m3) (a := a) (b := b) (L := L) (law := law) (v := v) ha hb hab hD3.b j2.2.2 hv (hL.fd hv2 f3) (fd_109 f3 hW)
              refine tl m4 (fd_trans f3 (fj_fd f4)) (Or.inr ⟨by unfold okT0; rw [hf, hz, hc]; rfl, ?_, j2.fj hv f4⟩)
              rw [start, hf]
              unfold f_X1_takeHands_J57
              rw [l1, Option.bind_some, if_neg (by decide), hh, Option.bind_some, hz, if_pos (show zb false = 0 from rfl), c2, b2_some, hc, if_neg (show ¬ zb true = 0 by decide), j1, Option.bind_some, c4]
              rfl
      · refine ⟨μ, fd_refl v μ, Or.inr (Or.inl ⟨exy, fun z => p2 z.2, ?_, h⟩)⟩
        unfold f_X1_takeHands
        rw [if_neg exy, has_P h hD, has_P h hD, if_pos p1, if_neg p2]
        rfl
    · refine ⟨μ, fd_refl v μ, Or.inr (Or.inl ⟨exy, fun z => p1 z.1, ?_, h⟩)⟩
      unfold f_X1_takeHands
      rw [if_neg exy, has_P h hD, if_neg p1]
      rfl
theorem x1_loose (h : VD μ v ρ) (hD : DW ρ) (hv : vO v) (x y : Int32) : ∃ μ1, fd v μ μ1 ∧ ((x = y ∧ f_X1_looseHands v x y μ = some (-1, μ1) ∧ VD μ1 v ρ) ∨ (x ≠ y ∧ ¬ (isP ρ x ∧ isP ρ y) ∧ f_X1_looseHands v x y μ = some (-2, μ1) ∧ VD μ1 v ρ) ∨ ∃ a b, x = Int32.ofNat a ∧ y = Int32.ofNat b ∧ a ≠ b ∧ a < nat (ρ 54) ∧ b < nat (ρ 54) ∧ (((hx ρ a).testBit b = false ∧ f_X1_looseHands v x y μ = some (-3, μ1) ∧ VD μ1 v ρ) ∨ ((hx ρ a).testBit b = true ∧ f_X1_looseHands v x y μ = some (Int32.ofNat (hc (rwx ρ a b) (nat (ρ 54)) / 2), μ1) ∧ VD μ1 v (rwx ρ a b)))) := by
  by_cases exy : x = y
  · exact ⟨μ, fd_refl v μ, Or.inl ⟨exy, by unfold f_X1_looseHands; rw [if_pos exy], h⟩⟩
  · by_cases p1 : 0 ≤ x.toInt ∧ x.toInt < nat (ρ 54)
    · by_cases p2 : 0 ≤ y.toInt ∧ y.toInt < nat (ρ 54)
      · obtain ⟨a, rfl, ea, la⟩ := v_of p1.1
        obtain ⟨b, rfl, eb, lb⟩ := v_of p2.1
        have hn9 := hD.1.2
        have ha : a < 8 := by omega
        have hb : b < 8 := by omega
        have hab : a ≠ b := fun z => exy (by rw [z])
        have hh := v_hh h hD ha hb
        cases hz : (hx ρ a).testBit b with
        | false =>
          refine ⟨μ, fd_refl v μ, Or.inr (Or.inr ⟨a, b, rfl, rfl, hab, by omega, by omega, Or.inl ⟨hz, ?_, h⟩⟩)⟩
          unfold f_X1_looseHands
          rw [if_neg exy, has_P h hD, has_P h hD, if_pos p1, if_pos p2, Option.bind_some, if_neg (by decide), Option.bind_some, if_neg (by decide), hh, Option.bind_some, hz]
          rfl
        | true =>
          obtain ⟨m2, q1, q2, q3⟩ := v_part h hD hv ha hb hab hz
          have hD2 := rwx_D hD hab (by omega) (by omega)
          refine ⟨m2, q3, Or.inr (Or.inr ⟨a, b, rfl, rfl, hab, by omega, by omega, Or.inr ⟨hz, ?_, q2⟩⟩)⟩
          unfold f_X1_looseHands
          rw [if_neg exy, has_P h hD, has_P h hD, if_pos p1, if_pos p2, Option.bind_some, if_neg (by decide), Option.bind_some, if_neg (by decide), hh, Option.bind_some, hz, if_neg (by decide), q1, Option.bind_some, v_countHolds (ρ := rwx ρ a b) q2.1 q2.2.1 hD2.1 (fun i hi => (hD2.2.1 i hi).2.2.2), Option.bind_some, rwx_ne (by omega) ha hb]
      · refine ⟨μ, fd_refl v μ, Or.inr (Or.inl ⟨exy, fun z => p2 z.2, ?_, h⟩)⟩
        unfold f_X1_looseHands
        rw [if_neg exy, has_P h hD, has_P h hD, if_pos p1, if_neg p2]
        rfl
    · refine ⟨μ, fd_refl v μ, Or.inr (Or.inl ⟨exy, fun z => p1 z.1, ?_, h⟩)⟩
      unfold f_X1_looseHands
      rw [if_neg exy, has_P h hD, if_neg p1]
      rfl
theorem VD_cl (h : VD μ v ρ) {p c : Nat} (hp : p < 8) : VD (hm_wI μ (v + 1) p (Int32.ofNat c)) v (rcl ρ p c) := by
  have e : ∀ k, 8 ≤ k → rcl ρ p c k = ρ k := fun k hk => if_neg (by omega)
  refine ⟨?_, fun i hi => ?_, fun i hi => ?_, ?_, ?_⟩
  · rw [wI_ne (by omega), e _ (by omega)]; exact h.1
  · rw [wI_ne (by omega), e _ (by omega)]; exact h.2.1 i hi
  · rw [wI_ne (a := v + 1) (b := v + 2) (by omega), wI_ne (a := v + 1) (b := v + 3) (by omega), e (8 + i) (by omega), e (25 + i) (by omega)]
    refine ⟨?_, (h.2.2.1 i hi).2⟩
    unfold rcl
    by_cases z : i = p
    · subst z; rw [wI_at, if_pos rfl]
    · rw [wI_ne (by omega), if_neg z]; exact (h.2.2.1 i hi).1
  · rw [wI_ne (by omega), e _ (by omega)]; exact h.2.2.2.1
  · rw [wI_ne (by omega), e _ (by omega)]; exact h.2.2.2.2
theorem x1_step (h : VD μ v ρ) (hD : DW ρ) (x y : Int32) : ∃ μ1, fd v μ μ1 ∧ ((¬ (1 ≤ y.toInt ∧ y.toInt ≤ 4) ∧ f_X1_stepOn v x y μ = some (-1, μ1) ∧ VD μ1 v ρ) ∨ ((1 ≤ y.toInt ∧ y.toInt ≤ 4) ∧ ¬ isP ρ x ∧ f_X1_stepOn v x y μ = some (-2, μ1) ∧ VD μ1 v ρ) ∨ ∃ p w, x = Int32.ofNat p ∧ y = Int32.ofNat w ∧ p < nat (ρ 54) ∧ 1 ≤ w ∧ w < 5 ∧ ((wce (nat (ρ p)) w = 99 ∧ f_X1_stepOn v x y μ = some (-3, μ1) ∧ VD μ1 v ρ) ∨ (wce (nat (ρ p)) w < 25 ∧ f_X1_stepOn v x y μ = some (0, μ1) ∧ VD μ1 v (rcl ρ p (wce (nat (ρ p)) w))))) := by
  by_cases q1 : y < (1 : Int32)
  · refine ⟨μ, fd_refl v μ, Or.inl ⟨fun z => ?_, by unfold f_X1_stepOn; rw [if_pos q1], h⟩⟩
    rw [i_lt, show (1 : Int32).toInt = 1 from rfl] at q1
    omega
  · by_cases q2 : y ≤ (4 : Int32)
    · rw [i_lt, show (1 : Int32).toInt = 1 from rfl] at q1
      rw [i_le, show (4 : Int32).toInt = 4 from rfl] at q2
      have hy : 1 ≤ y.toInt ∧ y.toInt ≤ 4 := by omega
      by_cases p1 : 0 ≤ x.toInt ∧ x.toInt < nat (ρ 54)
      · obtain ⟨p, rfl, ep, lp⟩ := v_of p1.1
        obtain ⟨w, rfl, ew, lw⟩ := v_of (x := y) (by omega)
        have hn9 := hD.1.2
        have hp : p < 8 := by omega
        have c25 : nat (ρ p) < 25 := (hD.2.1 p hp).1.2
        have el : hm_ld μ (v + 1) 8 (Int32.ofNat p) = some (Int32.ofNat (nat (ρ p))) := by
          rw [ld_n hp (by decide), (h.2.2.1 p hp).1]; exact congrArg some (hD.2.1 p hp).1.1
        have sc := v_stepc (nat (ρ p)) c25 w (by omega) (by omega)
        have start : f_X1_stepOn v (Int32.ofNat p) (Int32.ofNat w) μ = Option.bind (hm_ldX 2 (Int32.ofNat w)) fun x4 => Option.bind (hm_ldX 3 (Int32.ofNat w)) fun x7 => (if ((Int32.ofNat (nat (ρ p)) - Int32.ofNat (nat (ρ p)) / (5 : Int32) * (5 : Int32)) + x4) < 0 then some ((-3 : Int32), μ) else (if (5 : Int32) ≤ ((Int32.ofNat (nat (ρ p)) - Int32.ofNat (nat (ρ p)) / (5 : Int32) * (5 : Int32)) + x4) then some ((-3 : Int32), μ) else (if ((Int32.ofNat (nat (ρ p)) / (5 : Int32)) + x7) < 0 then some ((-3 : Int32), μ) else (if ((Int32.ofNat (nat (ρ p)) / (5 : Int32)) + x7) < (5 : Int32) then Option.bind (hm_sd μ (v + 1) 8 (Int32.ofNat p) (((5 : Int32) * ((Int32.ofNat (nat (ρ p)) / (5 : Int32)) + x7)) + ((Int32.ofNat (nat (ρ p)) - Int32.ofNat (nat (ρ p)) / (5 : Int32) * (5 : Int32)) + x4))) fun μ8 => some ((0 : Int32), μ8) else some ((-3 : Int32), μ))))) := by
          unfold f_X1_stepOn
          rw [if_neg (by rw [i_lt]; show ¬ _ < (1 : Int); omega), if_pos (by rw [i_le]; show _ ≤ (4 : Int); omega), has_P h hD, if_pos p1, Option.bind_some, if_neg (by decide), el]
          simp only [Option.bind_some]
        have hw5 : w < 5 := by omega
        have alt := wce_lt (nat (ρ p)) c25 w hw5
        generalize hm_ldX 2 (Int32.ofNat w) = o4 at sc start
        generalize hm_ldX 3 (Int32.ofNat w) = o7 at sc start
        cases o4 with
        | none => cases sc
        | some x4 =>
          cases o7 with
          | none => cases sc
          | some x7 =>
            simp only [Option.bind_some] at sc start
            generalize (Int32.ofNat (nat (ρ p)) - Int32.ofNat (nat (ρ p)) / (5 : Int32) * (5 : Int32)) + x4 = X at sc start
            generalize (Int32.ofNat (nat (ρ p)) / (5 : Int32)) + x7 = Y at sc start
            have bad : wce (nat (ρ p)) w = 99 → f_X1_stepOn v (Int32.ofNat p) (Int32.ofNat w) μ = some (-3, μ) → ∃ μ1, fd v μ μ1 ∧ ((¬ (1 ≤ (Int32.ofNat w).toInt ∧ (Int32.ofNat w).toInt ≤ 4) ∧ f_X1_stepOn v (Int32.ofNat p) (Int32.ofNat w) μ = some (-1, μ1) ∧ VD μ1 v ρ) ∨ ((1 ≤ (Int32.ofNat w).toInt ∧ (Int32.ofNat w).toInt ≤ 4) ∧ ¬ isP ρ (Int32.ofNat p) ∧ f_X1_stepOn v (Int32.ofNat p) (Int32.ofNat w) μ = some (-2, μ1) ∧ VD μ1 v ρ) ∨ ∃ p' w', Int32.ofNat p = Int32.ofNat p' ∧ Int32.ofNat w = Int32.ofNat w' ∧ p' < nat (ρ 54) ∧ 1 ≤ w' ∧ w' < 5 ∧ ((wce (nat (ρ p')) w' = 99 ∧ f_X1_stepOn v (Int32.ofNat p) (Int32.ofNat w) μ = some (-3, μ1) ∧ VD μ1 v ρ) ∨ (wce (nat (ρ p')) w' < 25 ∧ f_X1_stepOn v (Int32.ofNat p) (Int32.ofNat w) μ = some (0, μ1) ∧ VD μ1 v (rcl ρ p' (wce (nat (ρ p')) w'))))) := fun z1 z2 => ⟨μ, fd_refl v μ, Or.inr (Or.inr ⟨p, w, rfl, rfl, by omega, by omega, hw5, Or.inl ⟨z1, z2, h⟩⟩)⟩
            by_cases w99 : wce (nat (ρ p)) w = 99
            · rw [if_pos w99] at sc
              refine bad w99 ?_
              rw [start]
              by_cases c1 : X < 0
              · rw [if_pos c1]
              · rw [if_neg c1] at sc ⊢
                by_cases c2 : (5 : Int32) ≤ X
                · rw [if_pos c2]
                · rw [if_neg c2] at sc ⊢
                  by_cases c3 : Y < 0
                  · rw [if_pos c3]
                  · rw [if_neg c3] at sc ⊢
                    by_cases c4 : Y < (5 : Int32)
                    · exfalso
                      rw [if_pos c4] at sc
                      have h1 := Option.some.inj sc
                      have h2 := congrArg Int32.toInt h1
                      obtain ⟨X', hX, rfl⟩ := n_of c1
                      obtain ⟨Y', hY, rfl⟩ := n_of c3
                      rw [show (5 : Int32) = Int32.ofNat 5 from rfl, n_lt hY (by decide)] at c4
                      rw [show (5 : Int32) = Int32.ofNat 5 from rfl, n_le (by decide) hX] at c2
                      rw [show (5 : Int32) = Int32.ofNat 5 from rfl, n_mul, n_add, n_toInt (by omega)] at h2
                      have : (-3 : Int32).toInt = -3 := rfl
                      omega
                    · rw [if_neg c4]
            · rw [if_neg w99] at sc
              have w25 : wce (nat (ρ p)) w < 25 := alt.resolve_right w99
              have ne3 : ∀ k : Nat, k < 25 → (-3 : Int32) ≠ Int32.ofNat k := by decide +kernel
              refine ⟨hm_wI μ (v + 1) p (Int32.ofNat (wce (nat (ρ p)) w)), fd_w (fd_refl v μ) (by omega) _, Or.inr (Or.inr ⟨p, w, rfl, rfl, by omega, by omega, hw5, Or.inr ⟨w25, ?_, VD_cl h hp⟩⟩)⟩
              rw [start]
              by_cases c1 : X < 0
              · rw [if_pos c1] at sc; exact absurd (Option.some.inj sc) (ne3 _ w25)
              · rw [if_neg c1] at sc ⊢
                by_cases c2 : (5 : Int32) ≤ X
                · rw [if_pos c2] at sc; exact absurd (Option.some.inj sc) (ne3 _ w25)
                · rw [if_neg c2] at sc ⊢
                  by_cases c3 : Y < 0
                  · rw [if_pos c3] at sc; exact absurd (Option.some.inj sc) (ne3 _ w25)
                  · rw [if_neg c3] at sc ⊢
                    by_cases c4 : Y < (5 : Int32)
                    · rw [if_pos c4] at sc ⊢
                      rw [Option.some.inj sc, sd_n hp (by decide)]
                      rfl
                    · rw [if_neg c4] at sc; exact absurd (Option.some.inj sc) (ne3 _ w25)
      · refine ⟨μ, fd_refl v μ, Or.inr (Or.inl ⟨hy, p1, ?_, h⟩)⟩
        unfold f_X1_stepOn
        rw [if_neg (by rw [i_lt]; show ¬ _ < (1 : Int); omega), if_pos (by rw [i_le]; show _ ≤ (4 : Int); omega), has_P h hD, if_neg p1]
        rfl
    · refine ⟨μ, fd_refl v μ, Or.inl ⟨fun z => ?_, by unfold f_X1_stepOn; rw [if_neg q1, if_neg q2], h⟩⟩
      rw [i_le, show (4 : Int32).toInt = 4 from rfl] at q2
      omega
end
end
