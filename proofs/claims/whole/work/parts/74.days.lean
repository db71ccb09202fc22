section
/-! days. -/
def nxd (s : Int32) : Int32 := (((s.toInt64 * (1103 : Int64)) + (12345 : Int64)) - ((s.toInt64 * (1103 : Int64)) + (12345 : Int64)) / (1000003 : Int64) * (1000003 : Int64)).toInt32
def nxn (s : Nat) : Nat := (s * 1103 + 12345) % 1000003
theorem i64_n {n : Nat} (h : n < 2147483648) : (Int32.ofNat n).toInt64.toInt = n := by rw [i64_of32, n_toInt h]
theorem nxd_n {s : Nat} (hs : s ≤ 1000003) : nxd (Int32.ofNat s) = Int32.ofNat (nxn s) := by
  have hl : nxn s < 1000003 := Nat.mod_lt _ (by decide)
  have e0 : (Int32.ofNat s).toInt64 = Int64.ofNat s := by
    apply Int64.toInt_inj.mp
    rw [i64_n (by omega), Int64.toInt_ofNat_of_lt (by omega)]
  unfold nxd
  rw [e0]
  have e1 : Int64.ofNat s * 1103 + 12345 = Int64.ofNat (s * 1103 + 12345) := by
    rw [show (1103 : Int64) = Int64.ofNat 1103 from rfl, show (12345 : Int64) = Int64.ofNat 12345 from rfl, ← Int64.ofNat_mul, ← Int64.ofNat_add]
  rw [e1]
  generalize hA : s * 1103 + 12345 = A
  have hA2 : A < 2000000000 := by omega
  have e2 : Int64.ofNat A / 1000003 = Int64.ofNat (A / 1000003) := by
    apply Int64.toInt_inj.mp
    rw [Int64.toInt_div, Int64.toInt_ofNat_of_lt (by omega), Int64.toInt_ofNat_of_lt (by omega), show (1000003 : Int64).toInt = 1000003 from rfl]
    have e : (A : Int).tdiv 1000003 = ((A / 1000003 : Nat) : Int) := rfl
    rw [e, Int.bmod_def]
    have : A / 1000003 < 2000000000 := Nat.lt_of_le_of_lt (Nat.div_le_self _ _) hA2
    split <;> omega
  have e3 : Int64.ofNat A - Int64.ofNat (A / 1000003) * 1000003 = Int64.ofNat (A % 1000003) := by
    have hd : A = A % 1000003 + A / 1000003 * 1000003 := by
      have := Nat.div_add_mod A 1000003
      rw [Nat.mul_comm] at this
      omega
    have e4 : Int64.ofNat A = Int64.ofNat (A % 1000003) + Int64.ofNat (A / 1000003) * 1000003 := by
      rw [show (1000003 : Int64) = Int64.ofNat 1000003 from rfl, ← Int64.ofNat_mul, ← Int64.ofNat_add, ← hd]
    rw [e4, Int64.add_sub_cancel]
  rw [e2, e3]
  apply Int32.toInt_inj.mp
  have hl2 : A % 1000003 < 1000003 := Nat.mod_lt _ (by decide)
  rw [Int64.toInt_toInt32, Int64.toInt_ofNat_of_lt (by omega), n_toInt (by unfold nxn; omega)]
  unfold nxn
  rw [hA, Int.bmod_def]
  split <;> omega
theorem nxn_le (s : Nat) : nxn s ≤ 1000003 := Nat.le_of_lt (Nat.mod_lt _ (by decide))
/-- what one time of the days comes to -/
def dst (L : List pc_K) (ρ : Nat → Int32) (a b w : Nat) : Nat → Int32 := if w = 0 then (if a ≠ b ∧ okT0 L ρ a b = true then rwx ρ a b else ρ) else if w = 1 then (if a ≠ b ∧ (hx ρ a).testBit b = true then rwx ρ a b else ρ) else (if wce (nat (ρ a)) (b % 4 + 1) = 99 then ρ else (drO L (nat (ρ 54)) (nat (ρ 54)) (rcl ρ a (wce (nat (ρ a)) (b % 4 + 1)), 0)).1)
def dps (L : List pc_K) (ρ : Nat → Int32) : Nat → Int32 := (drO L (nat (ρ 54)) (nat (ρ 54)) (rdy (rti L ρ (nat (ρ 54))), 0)).1
theorem rwx_k {ρ : Nat → Int32} {a b : Nat} (ha : a < 8) (hb : b < 8) : ∀ k, 25 ≤ k → rwx ρ a b k = ρ k := fun k hk => rwx_ne (by omega) ha hb
theorem dst_D {L : List pc_K} {ρ : Nat → Int32} {a b w : Nat} (hD : DW ρ) (ha : a < nat (ρ 54)) (hb : b < nat (ρ 54)) : DW (dst L ρ a b w) ∧ (∀ k, 24 ≤ k → dst L ρ a b w k = ρ k) := by
  have h9 := hD.1.2
  unfold dst
  split
  · split
    · rename_i q
      exact ⟨rwx_D hD q.1 ha hb, fun k hk => rwx_ne (by omega) (by omega) (by omega)⟩
    · exact ⟨hD, fun _ _ => rfl⟩
  · split
    · split
      · rename_i q
        exact ⟨rwx_D hD q.1 ha hb, fun k hk => rwx_ne (by omega) (by omega) (by omega)⟩
      · exact ⟨hD, fun _ _ => rfl⟩
    · split
      · exact ⟨hD, fun _ _ => rfl⟩
      · rename_i w99
        have c25 : nat (ρ a) < 25 := (hD.2.1 a (by omega)).1.2
        have w25 : wce (nat (ρ a)) (b % 4 + 1) < 25 := (wce_lt _ c25 _ (by omega)).resolve_right w99
        obtain ⟨q1, q2⟩ := drO_D (L := L) (n := nat (ρ 54)) (q := (rcl ρ a (wce (nat (ρ a)) (b % 4 + 1)), 0)) (rcl_D hD (by omega) w25) (by show nat (rcl ρ a _ 54) = _; unfold rcl; rw [if_neg (by omega)]) (nat (ρ 54)) (Nat.le_refl _)
        refine ⟨q1, fun k hk => (q2 k (by omega)).trans ?_⟩
        show rcl ρ a _ k = ρ k
        unfold rcl
        rw [if_neg (by omega)]
theorem dps_D {L : List pc_K} {ρ : Nat → Int32} (hD : DW ρ) (hd : nat (ρ 24) < 999) : DW (dps L ρ) ∧ (∀ k, 25 ≤ k → dps L ρ k = ρ k) := by
  have h9 := hD.1.2
  obtain ⟨q1, q2⟩ := drO_D (L := L) (n := nat (ρ 54)) (q := (rdy (rti L ρ (nat (ρ 54))), 0)) (rti_D hD (by omega) hd) (by show nat (rdy (rti L ρ _) 54) = _; unfold rdy rti; rw [if_neg (by omega), if_neg (by omega)]) (nat (ρ 54)) (Nat.le_refl _)
  refine ⟨q1, fun k hk => (q2 k (by omega)).trans ?_⟩
  show rdy (rti L ρ _) k = ρ k
  unfold rdy rti
  rw [if_neg (by omega), if_neg (by omega)]
section
variable {L : List pc_K} {ρ : Nat → Int32} {law : Option Nat}
theorem x9_time {μ : hm_M} {v a b w : Nat} (h : VD μ v ρ) (hD : DW ρ) (hd : nat (ρ 24) < 999) (hv : vO v) (hv2 : v + 9 < 205) (l1 : f_X8_lawInForce v μ = some law) (hL : LJ μ law L) (hW : hm_ln μ 109 = 8) (ha : a < nat (ρ 54)) (hb : b < nat (ρ 54)) (hw : w < 3) : ∃ x μ1, f_X1_doOne v (Int32.ofNat w) (Int32.ofNat a) (if w = 2 then Int32.ofNat (b % 4 + 1) else Int32.ofNat b) μ = some (x, μ1) ∧ VD μ1 v (dst L ρ a b w) ∧ fd v μ μ1 := by
  have h9 := hD.1.2
  have nab : ∀ {a' b' : Nat}, a' < nat (ρ 54) → b' < nat (ρ 54) → Int32.ofNat a = Int32.ofNat a' → Int32.ofNat b = Int32.ofNat b' → a = a' ∧ b = b' := fun h1 h2 e1 e2 => by
    rw [n_eq (by omega) (by omega)] at e1 e2
    exact ⟨e1, e2⟩
  have pa : 0 ≤ (Int32.ofNat a).toInt ∧ (Int32.ofNat a).toInt < nat (ρ 54) := by rw [n_toInt (by omega)]; omega
  have pb : 0 ≤ (Int32.ofNat b).toInt ∧ (Int32.ofNat b).toInt < nat (ρ 54) := by rw [n_toInt (by omega)]; omega
  match w, hw with
  | 0, _ =>
    have d0 : ∀ x y : Int32, f_X1_doOne v (Int32.ofNat 0) x y μ = hm_b2 (f_X1_takeHands v x y μ) fun x12 μ13 => some (x12, μ13) := by
      intro x y
      unfold f_X1_doOne
      rw [if_neg (by decide), if_pos (show Int32.ofNat 0 = 0 from rfl)]
    rw [if_neg (by decide), d0]
    show ∃ x μ1, _ ∧ VD μ1 v (if a ≠ b ∧ okT0 L ρ a b = true then rwx ρ a b else ρ) ∧ _
    obtain ⟨μ1, f, ⟨q, e, g⟩ | ⟨-, q, -⟩ | ⟨a', b', e1, e2, q, q1, q2, ⟨k, e, g⟩ | ⟨k, e, g⟩⟩⟩ := x1_take h hD hv hv2 l1 hL hW (Int32.ofNat a) (Int32.ofNat b)
    · rw [n_eq (by omega) (by omega)] at q
      rw [if_neg fun z => z.1 q]
      exact ⟨_, μ1, by rw [e]; rfl, g, f⟩
    · exact absurd ⟨pa, pb⟩ q
    · obtain ⟨rfl, rfl⟩ := nab q1 q2 e1 e2
      rw [if_neg fun z => by rw [k] at z; cases z.2]
      exact ⟨_, μ1, by rw [e]; rfl, g, f⟩
    · obtain ⟨rfl, rfl⟩ := nab q1 q2 e1 e2
      rw [if_pos ⟨q, k⟩]
      exact ⟨_, μ1, by rw [e]; rfl, g, f⟩
  | 1, _ =>
    have d0 : ∀ x y : Int32, f_X1_doOne v (Int32.ofNat 1) x y μ = hm_b2 (f_X1_looseHands v x y μ) fun x12 μ13 => some (x12, μ13) := by
      intro x y
      unfold f_X1_doOne
      rw [if_neg (by decide), if_neg (by decide), if_pos (show Int32.ofNat 1 = 1 from rfl)]
    rw [if_neg (by decide), d0]
    show ∃ x μ1, _ ∧ VD μ1 v (if a ≠ b ∧ (hx ρ a).testBit b = true then rwx ρ a b else ρ) ∧ _
    obtain ⟨μ1, f, ⟨q, e, g⟩ | ⟨-, q, -⟩ | ⟨a', b', e1, e2, q, q1, q2, ⟨k, e, g⟩ | ⟨k, e, g⟩⟩⟩ := x1_loose h hD hv (Int32.ofNat a) (Int32.ofNat b)
    · rw [n_eq (by omega) (by omega)] at q
      rw [if_neg fun z => z.1 q]
      exact ⟨_, μ1, by rw [e]; rfl, g, f⟩
    · exact absurd ⟨pa, pb⟩ q
    · obtain ⟨rfl, rfl⟩ := nab q1 q2 e1 e2
      rw [if_neg fun z => by rw [k] at z; cases z.2]
      exact ⟨_, μ1, by rw [e]; rfl, g, f⟩
    · obtain ⟨rfl, rfl⟩ := nab q1 q2 e1 e2
      rw [if_pos ⟨q, k⟩]
      exact ⟨_, μ1, by rw [e]; rfl, g, f⟩
  | 2, _ =>
    have d0 : ∀ x y : Int32, f_X1_doOne v (Int32.ofNat 2) x y μ = hm_b2 (f_X1_stepOn v x y μ) fun x6 μ7 => (if 0 ≤ x6 then hm_b2 (f_X1_dropHolds v μ7) fun x8 μ9 => some (x8, μ9) else some (x6, μ7)) := by
      intro x y
      unfold f_X1_doOne
      rw [if_neg (by decide), if_neg (by decide), if_neg (by decide), if_pos (show Int32.ofNat 2 = 2 from rfl)]
    rw [if_pos rfl, d0]
    show ∃ x μ1, _ ∧ VD μ1 v (if wce (nat (ρ a)) (b % 4 + 1) = 99 then ρ else (drO L (nat (ρ 54)) (nat (ρ 54)) (rcl ρ a (wce (nat (ρ a)) (b % 4 + 1)), 0)).1) ∧ _
    obtain ⟨μ1, f, ⟨q, e, g⟩ | ⟨-, q, -⟩ | ⟨a', b', e1, e2, q1, q2, q3, ⟨k, e, g⟩ | ⟨k, e, g⟩⟩⟩ := x1_step h hD (Int32.ofNat a) (Int32.ofNat (b % 4 + 1))
    · rw [n_toInt (by omega)] at q
      omega
    · exact absurd pa q
    · rw [n_eq (by omega) (by omega)] at e1 e2
      subst e1
      rw [← e2] at k
      rw [if_pos k]
      exact ⟨_, μ1, by rw [e]; rfl, g, f⟩
    · rw [n_eq (by omega) (by omega)] at e1 e2
      subst e1
      rw [← e2] at k g
      rw [if_neg (by omega)]
      obtain ⟨μ2, c2, g2, f2⟩ := v_drop9 g (rcl_D hD (by omega) k) (by unfold rcl; rw [if_neg (by omega)]) hv hv2 (by rw [lawIF_fd hv f]; exact l1) (hL.fd hv2 f) (fd_109 f hW)
      exact ⟨_, μ2, by rw [e, b2_some, if_pos (by decide), c2]; rfl, g2, fd_trans f f2⟩
  | w + 3, hw => omega
theorem x9_dayp {μ : hm_M} {v : Nat} {x y : Int32} (h : VD μ v ρ) (hD : DW ρ) (hd : nat (ρ 24) < 999) (hv : vO v) (hv2 : v + 9 < 205) (l1 : f_X8_lawInForce v μ = some law) (hL : LJ μ law L) (hW : hm_ln μ 109 = 8) : ∃ z μ1, f_X1_doOne v 3 x y μ = some (z, μ1) ∧ VD μ1 v (dps L ρ) ∧ fd v μ μ1 := by
  have h9 := hD.1.2
  have d0 : f_X1_doOne v 3 x y μ = hm_b2 (f_X1_passDay v μ) fun x2 μ3 => (if x2 < 0 then some (x2, μ3) else hm_b2 (f_X1_dropHolds v μ3) fun x4 μ5 => some (x2, μ5)) := by
    unfold f_X1_doOne
    rw [if_pos (by decide)]
  obtain ⟨μ1, f, ⟨q, -⟩ | ⟨-, e, g⟩⟩ := x1_pass h hD rfl hv hv2 l1 hL hW
  · omega
  · obtain ⟨μ2, c2, g2, f2⟩ := v_drop9 g (rti_D hD (by omega) hd) (by unfold rdy rti; rw [if_neg (by omega), if_neg (by omega)]) hv hv2 (by rw [lawIF_fd hv f]; exact l1) (hL.fd hv2 f) (fd_109 f hW)
    exact ⟨_, μ2, by rw [d0, e, b2_some, if_neg (n_nn (by omega)), c2]; rfl, g2, fd_trans f f2⟩
theorem n_dr {s : Nat} (hs : s ≤ 1000003) : ((((1103 : Int64) * ((Int32.ofNat s).toInt64)) + (12345 : Int64)) - (((1103 : Int64) * ((Int32.ofNat s).toInt64)) + (12345 : Int64)) / (1000003 : Int64) * (1000003 : Int64)).toInt32 = Int32.ofNat (nxn s) := by
  rw [Int64.mul_comm]
  exact nxd_n hs
theorem rm2_n {a b : Nat} (ha : a < 2147483648) (hb : b < 2147483648) (h0 : 0 < b) : hm_rm2 (Int32.ofNat a) (Int32.ofNat b) = some (Int32.ofNat (a % b)) := by
  unfold hm_rm2
  rw [if_neg (by rw [show (0 : Int32) = Int32.ofNat 0 from rfl, n_eq (by omega) (by omega)]; omega), n_rem ha hb]
end
end
