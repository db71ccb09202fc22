section
variable {μ : hm_M} {ρ : Nat → Int32} {law : Option Nat} {L : List pc_K} {n : Nat}
def fE (μ m : hm_M) : Prop := m.2 = μ.2 ∧ ∀ a j, ¬ (a = 107 ∧ j = 2) → a ≠ 108 → a ≠ 109 → ¬ (145 ≤ a ∧ a ≤ 149) → m.1 a j = μ.1 a j
theorem fE_fs {μ m : hm_M} (h : fE μ m) : fs μ m := fD_fs h
def fG (m m1 : hm_M) : Prop := m1.2 = m.2 ∧ ∀ a j, a ≠ 191 → ¬ (196 ≤ a ∧ a ≤ 199) → ¬ (a = 179 ∧ ((22 ≤ j ∧ j ≤ 25) ∨ (38 ≤ j ∧ j ≤ 42))) → m1.1 a j = m.1 a j
theorem fG_fs {m m1 : hm_M} (h : fG m m1) : fs m m1 := ⟨congrArg (fun z => z.2) h.1, fun a j z => h.2 a j (by unfold scr at z; omega) (by unfold scr at z; omega) (by unfold scr at z; omega)⟩
theorem dC_c9 {bb : Nat} (hR : bR ρ) : c9 (dC bb L ρ) := fun a b ha hb => dC_9 hR ha hb
theorem core9 {bb : Nat} (hbb : bb < 3) (w : Bool) (what : Int32) (hn : n ≤ 8) (h0 : μ.1 65 0 = Int32.ofNat n) (hR : bR ρ) (hJ : VJ μ 65 ρ) (hL : LJ μ law L) (hW : hm_ln μ 109 = 8) : ∃ m, (Option.bind (f_X0_draw 65 law (Int32.ofNat bb) μ) fun μ4 => hm_b2 (f_X0_tellRow (zb w) what μ4) fun x5 μ6 => some (x5, μ6)) = some (if 0 ≤ what.toInt ∧ what.toInt ≤ n then resP w (dC bb L ρ) n what else -1, m) ∧ fE μ m := by
  obtain ⟨m4, d1, d2, d3, d4⟩ := v_draw (L := L) hbb hn h0 hR hJ hL hW
  obtain ⟨m6, t1, t2, t3⟩ := v_tell (w := w) hn d3 d4 (dC_c9 hR) (dC_cm bb L ρ) what
  refine ⟨m6, ?_, t2.trans d2.1, fun a j z1 z2 z3 z4 => ?_⟩
  · rw [d1, Option.bind_some, t1, b2_some]
  · rw [t3 a j (by omega) (by omega) (by omega)]
    exact d2.2 a j z1 z2 z3 z4
theorem core10 {m : hm_M} (gl w : Bool) (what : Int32) (hρ : m.1 181 = ρ) (hn : n ≤ 8) (h0 : ρ 54 = Int32.ofNat n) (hR : bR ρ) (hL : FL ρ L) : ∃ m1, (Option.bind (f_X10_laysCosts (zb gl) m) fun μ3 => Option.bind (hm_pZ μ3 179 39 (zb w)) fun μ4 => hm_b2 (f_X10_bestRing what μ4) fun x5 μ6 => some (x5, μ6)) = some (if 0 ≤ what.toInt ∧ what.toInt ≤ n then resP w (dC (if gl = true then 1 else 0) L ρ) n what else -1, m1) ∧ fG m m1 := by
  obtain ⟨m3, c1, c2, c3⟩ := v_costs (μ := m) (L := L) (n := n) gl hn (by rw [hρ]; exact h0) (by rw [hρ]; exact hR) (by rw [hρ]; exact hL)
  rw [hρ] at c2
  have hM : MR w (hm_wI m3 179 39 (zb w)) n (cc8 (dC (if gl = true then 1 else 0) L ρ)) := ⟨by rw [wI_ne (by omega), c3.2 _ _ (by omega) (by omega) (by omega), hρ]; exact h0, fun a b ha hb hab => by
    rw [wI_ne (by omega), c2.cr a b ha hb hab]
    exact congrArg Int32.ofNat (if_pos ⟨by omega, by omega⟩ : cc8 _ a b = _).symm, wI_at _ _ _ _⟩
  obtain ⟨m6, b1, b2, b3⟩ := v_best hn hM (dC_c9 hR) (dC_cm _ L ρ) what
  refine ⟨m6, ?_, b2.trans c3.1, fun a j z1 z2 z3 => ?_⟩
  · rw [c1, Option.bind_some, zb_pZ, Option.bind_some, b1, b2_some]
  · rw [b3 a j (by omega) (by omega) (by omega), wI_ne (by omega)]
    exact c3.2 a j z1 (by omega) (by omega)
theorem pu_rg (gl w : Bool) (what : Int32) {ν : hm_N} (hL : hm_LL ν μ) (h : PP μ) : ∃ (r : Int32) (μ1 μ2 : hm_M), (Option.bind (f_X8_lawInForce 65 μ) fun x2 => Option.bind (f_X0_draw 65 x2 (Int32.ofNat (if gl = true then 1 else 0)) μ) fun μ4 => hm_b2 (f_X0_tellRow (zb w) what μ4) fun x5 μ6 => some (x5, μ6)) = some (r, μ1) ∧ (Option.bind (f_X10_laysCosts (zb gl) μ1) fun μ3 => Option.bind (hm_pZ μ3 179 39 (zb w)) fun μ4 => hm_b2 (f_X10_bestRing what μ4) fun x5 μ6 => some (x5, μ6)) = some (r, μ2) ∧ PP μ2 := by
  obtain ⟨law, Lw, l1, l2, l3⟩ := lawF h.1
  have hW := ln_109 hL
  have hR := h.1.1.d.b
  have b54 := h.1.1.1
  have h0 : μ.1 65 0 = Int32.ofNat (nat (μ.1 181 54)) := h.1.2.2.2.1.trans b54.1
  have hn : nat (μ.1 181 54) ≤ 8 := by have := b54.2; omega
  obtain ⟨m6, t1, t2⟩ := core9 (bb := if gl = true then 1 else 0) (by split <;> omega) w what hn h0 hR h.1.2.2.2.j l2 hW
  have P6 := fs_PP h (fE_fs t2)
  have e181 : m6.1 181 = μ.1 181 := fs_181 (fE_fs t2)
  obtain ⟨m7, q1, q2⟩ := core10 (m := m6) gl w what e181 hn b54.1 hR l3
  exact ⟨_, m6, m7, by rw [l1, Option.bind_some]; exact t1, q1, fs_PP P6 (fG_fs q2)⟩
theorem pu_ring (v1 : Int32) {ν : hm_N} (hL : hm_LL ν μ) (h : PP μ) : ∃ (r : Int32) (μ1 μ2 : hm_M), f_X9_ring v1 μ = some (r, μ1) ∧ f_X10_ring v1 μ1 = some (r, μ2) ∧ PP μ2 := pu_rg false false v1 hL h
theorem pu_narrow (v1 : Int32) {ν : hm_N} (hL : hm_LL ν μ) (h : PP μ) : ∃ (r : Int32) (μ1 μ2 : hm_M), f_X9_narrow v1 μ = some (r, μ1) ∧ f_X10_narrow v1 μ1 = some (r, μ2) ∧ PP μ2 := pu_rg false true v1 hL h
theorem pu_gloves (v1 : Int32) {ν : hm_N} (hL : hm_LL ν μ) (h : PP μ) : ∃ (r : Int32) (μ1 μ2 : hm_M), f_X9_gloves v1 μ = some (r, μ1) ∧ f_X10_gloves v1 μ1 = some (r, μ2) ∧ PP μ2 := pu_rg true false v1 hL h
theorem pu_compare (v1 : Int32) {ν : hm_N} (hL : hm_LL ν μ) (h : PP μ) : ∃ (r : Int32) (μ1 μ2 : hm_M), f_X9_compare v1 μ = some (r, μ1) ∧ f_X10_compare v1 μ1 = some (r, μ2) ∧ PP μ2 := by
  have hW := ln_109 hL
  have hR := h.1.1.d.b
  have b54 := h.1.1.1
  have b56 := h.1.1.2.2.2.2.1
  have h0 : μ.1 65 0 = Int32.ofNat (nat (μ.1 181 54)) := h.1.2.2.2.1.trans b54.1
  have hn : nat (μ.1 181 54) ≤ 8 := by have := b54.2; omega
  have e7 : μ.1 65 7 = Int32.ofNat (nat (μ.1 181 56)) := h.1.2.2.2.2.2.2.1.2.trans b56.1
  have k6 : nat (μ.1 181 56) ≤ 6 := by have := b56.2; omega
  generalize hk : nat (μ.1 181 56) = k at e7 k6
  have e56 : μ.1 181 56 = Int32.ofNat k := by rw [← hk]; exact b56.1
  -- with a law of one's own
  have go : ∀ law L, LJ μ law L → FL (fun j => if j = 57 then v1 else μ.1 181 j) L → ∃ (r : Int32) (μ1 μ2 : hm_M), f_X9_compare_J44 v1 law μ = some (r, μ1) ∧ (Option.bind (hm_ld μ1 181 5665 (57 : Int32)) fun x3 => Option.bind (hm_sd μ1 181 5665 (57 : Int32) v1) fun μ4 => hm_b2 (f_X10_ring (0 : Int32) μ4) fun x5 μ6 => Option.bind (hm_sd μ6 181 5665 (57 : Int32) x3) fun μ7 => some (x5, μ7)) = some (r, μ2) ∧ PP μ2 := by
    intro law L l2 l3
    have hR' : bR (fun j => if j = 57 then v1 else μ.1 181 j) := by
      obtain ⟨r1, r2, r3⟩ := hR
      refine ⟨fun i hi => ?_, ?_, ?_⟩
      · show bd (if i = 57 then _ else _) 25 ∧ bd (if 8 + i = 57 then _ else _) 5 ∧ bd (if 25 + i = 57 then _ else _) 4
        rw [if_neg (by omega), if_neg (by omega), if_neg (by omega)]
        exact r1 i hi
      · show bd (if 24 = 57 then _ else _) 1000
        rw [if_neg (by omega)]
        exact r2
      · show bd (if 52 = 57 then _ else _) 10
        rw [if_neg (by omega)]
        exact r3
    have hJ' : VJ μ 65 (fun j => if j = 57 then v1 else μ.1 181 j) := by
      obtain ⟨r1, r2, r3⟩ := h.1.2.2.2.j
      refine ⟨fun i hi => ?_, ?_, ?_⟩
      · show _ = (if i = 57 then _ else _) ∧ _ = (if 8 + i = 57 then _ else _) ∧ _ = (if 25 + i = 57 then _ else _)
        rw [if_neg (by omega), if_neg (by omega), if_neg (by omega)]
        exact r1 i hi
      · show _ = (if 24 = 57 then _ else _)
        rw [if_neg (by omega)]
        exact r2
      · show _ = (if 52 = 57 then _ else _)
        rw [if_neg (by omega)]
        exact r3
    obtain ⟨m6, t1, t2⟩ := core9 (bb := 0) (by omega) false 0 hn h0 hR' hJ' l2 hW
    have P6 := fs_PP h (fE_fs t2)
    have e181 : m6.1 181 = μ.1 181 := fs_181 (fE_fs t2)
    have er : (hm_wI m6 181 57 v1).1 181 = fun j => if j = 57 then v1 else μ.1 181 j := funext fun j => by
      by_cases z : j = 57
      · rw [z, wI_at, if_pos rfl]
      · rw [wI_ne (by omega), if_neg z, e181]
    obtain ⟨m7, q1, q2⟩ := core10 (m := hm_wI m6 181 57 v1) (ρ := fun j => if j = 57 then v1 else μ.1 181 j) (n := nat (μ.1 181 54)) (L := L) false false 0 er hn (by show (if 54 = 57 then _ else _) = _; rw [if_neg (by omega)]; exact b54.1) hR' l3
    refine ⟨_, m6, hm_wI m7 181 57 (m6.1 181 57), t1, ?_, P6.same ⟨?_, fun a j z => ?_⟩⟩
    · rw [show (57 : Int32) = Int32.ofNat 57 from rfl, ld_n (by omega) (by decide), Option.bind_some, sd_n (by omega) (by decide), Option.bind_some]
      unfold f_X10_ring
      rw [show (Option.bind (f_X10_laysCosts (0 : Int32) (hm_wI m6 181 57 v1)) fun μ3 => Option.bind (hm_pZ μ3 179 39 (0 : Int32)) fun μ4 => hm_b2 (f_X10_bestRing 0 μ4) fun x5 μ6 => some (x5, μ6)) = _ from q1, b2_some, sd_n (by omega) (by decide), Option.bind_some]
      rfl
    · show m7.2.2 = _
      rw [q2.1]
      rfl
    · by_cases y : a = 181 ∧ j = 57
      · rw [y.1, y.2, wI_at]
      · rw [wI_ne y, q2.2 a j (by unfold dV dI dD dS dT dM at z; omega) (by unfold dV dI dD dS dT dM at z; omega) (by unfold dV dI dD dS dT dM at z; omega), wI_ne y]
  unfold f_X9_compare f_X10_compare f_X10_isLaw f_X9_compare_J18
  have hli : ∀ m : hm_M, m.1 181 56 = Int32.ofNat k → (Option.bind (hm_ld m 181 5665 (56 : Int32)) fun x2 => Option.bind (f_X10_lies v1 (-1 : Int32) (x2 - (1 : Int32))) fun x3 => hm_rz x3) = some (if -1 ≤ v1.toInt ∧ v1.toInt < k then 1 else 0) := fun m hm => by
    rw [show (56 : Int32) = Int32.ofNat 56 from rfl, ld_n (by omega) (by decide), Option.bind_some, hm, v_lies, Option.bind_some]
    have e : (Int32.ofNat k - 1).toInt = (k : Int) - 1 := by
      have key : ∀ k, k < 7 → (Int32.ofNat k - 1).toInt = (k : Int) - 1 := by decide +kernel
      exact key k (by omega)
    rw [e, show (-1 : Int32).toInt = -1 from rfl]
    by_cases z : -1 ≤ v1.toInt ∧ v1.toInt < k
    · rw [if_pos z, if_pos (by omega)]; rfl
    · rw [if_neg z, if_neg (by omega)]; rfl
  by_cases z : v1 = -1
  · rw [if_pos z, if_pos z]
    obtain ⟨r, μ1, μ2, g1, g2, g3⟩ := go none [] (Or.inl ⟨rfl, rfl⟩) (Or.inl ⟨z, rfl⟩)
    refine ⟨r, μ1, μ2, g1, ?_, g3⟩
    have e56' : μ1.1 181 56 = Int32.ofNat k := by
      unfold f_X9_compare_J44 at g1
      obtain ⟨m6, t1, t2⟩ := core9 (L := []) (law := none) (bb := 0) (by omega) false 0 hn h0 hR h.1.2.2.2.j (Or.inl ⟨rfl, rfl⟩) hW
      rw [show (Option.bind (f_X0_draw 65 none (0 : Int32) μ) fun μ4 => hm_b2 (f_X0_tellRow (0 : Int32) (0 : Int32) μ4) fun x5 μ6 => some (x5, μ6)) = _ from t1] at g1
      cases g1
      rw [fs_181 (fE_fs t2)]
      exact e56
    rw [hli μ1 e56', Option.bind_some, if_pos (show -1 ≤ v1.toInt ∧ v1.toInt < (k : Int) by rw [z, show (-1 : Int32).toInt = -1 from rfl]; omega), if_neg (by decide)]
    exact g2
  · rw [if_neg z, if_neg z]
    unfold f_X8_hasLaw
    rw [e7]
    by_cases z1 : v1 < 0
    · rw [if_pos z1, Option.bind_some, if_pos rfl]
      refine ⟨_, μ, μ, rfl, ?_, h⟩
      have zt : v1.toInt < 0 := by rw [i_lt] at z1; exact z1
      have zn : v1.toInt ≠ -1 := fun y => z (Int32.toInt_inj.mp y)
      rw [hli μ e56, Option.bind_some, if_neg (show ¬ (-1 ≤ v1.toInt ∧ v1.toInt < (k : Int)) by omega), if_pos rfl]
    · rw [if_neg z1]
      obtain ⟨t, ht, rfl⟩ := n_of z1
      by_cases z2 : Int32.ofNat k ≤ Int32.ofNat t
      · rw [if_pos z2, Option.bind_some, if_pos rfl]
        refine ⟨_, μ, μ, rfl, ?_, h⟩
        rw [n_le (by omega) (by omega)] at z2
        rw [hli μ e56, Option.bind_some, n_toInt ht, if_neg (show ¬ (-1 ≤ (t : Int) ∧ (t : Int) < (k : Int)) by omega), if_pos rfl]
      · rw [if_neg z2, Option.bind_some, if_neg (by decide)]
        rw [n_le (by omega) (by omega)] at z2
        obtain ⟨p, C, L, p1, p2, p3⟩ := lawAt h.1.2.2.2.2.2.2.2.2 (t := t) (by rw [hk]; omega)
        rw [ldR_n (by omega) (by decide), Option.bind_some, show μ.2.2.1 71 t = some p from p1]
        have l3 : FL (fun j => if j = 57 then Int32.ofNat t else μ.1 181 j) L := by
          refine Or.inr ⟨t, C, by omega, if_pos rfl, ?_⟩
          unfold lawt at p3 ⊢
          have e1 : (if 58 + t = 57 then Int32.ofNat t else μ.1 181 (58 + t)) = μ.1 181 (58 + t) := if_neg (by omega)
          have e2 : ∀ j, (if 65 + 400 * t + j = 57 then Int32.ofNat t else μ.1 181 (65 + 400 * t + j)) = μ.1 181 (65 + 400 * t + j) := fun j => if_neg (by omega)
          have e3 : ∀ j, (if 2865 + 400 * t + j = 57 then Int32.ofNat t else μ.1 181 (2865 + 400 * t + j)) = μ.1 181 (2865 + 400 * t + j) := fun j => if_neg (by omega)
          simp only [e1, e2, e3]
          exact p3
        obtain ⟨r, μ1, μ2, g1, g2, g3⟩ := go (some p) L p2 l3
        refine ⟨r, μ1, μ2, g1, ?_, g3⟩
        have e56' : μ1.1 181 56 = Int32.ofNat k := by
          unfold f_X9_compare_J44 at g1
          obtain ⟨m6, t1, t2⟩ := core9 (L := L) (law := some p) (bb := 0) (by omega) false 0 hn h0 hR h.1.2.2.2.j p2 hW
          rw [show (Option.bind (f_X0_draw 65 (some p) (0 : Int32) μ) fun μ4 => hm_b2 (f_X0_tellRow (0 : Int32) (0 : Int32) μ4) fun x5 μ6 => some (x5, μ6)) = _ from t1] at g1
          cases g1
          rw [fs_181 (fE_fs t2)]
          exact e56
        rw [hli μ1 e56', Option.bind_some, n_toInt ht, if_pos (show -1 ≤ (t : Int) ∧ (t : Int) < (k : Int) by omega), if_neg (by decide)]
        exact g2
end
