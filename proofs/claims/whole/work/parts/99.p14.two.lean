section
variable {μ : hm_M} {n : Nat} {c : Nat → Nat → Nat} {t : Nat → Nat → Nat} {m : hm_M} {tb : tbl}
def bpt (g : Nat → Nat) : Nat → Nat × Nat
  | 0 => (0, 1000000)
  | k + 1 => if g (2 * k + 1) < (bpt g k).2 then (2 * k + 1, g (2 * k + 1)) else bpt g k
theorem bpt_p (g : Nat → Nat) : ∀ k, ((bpt g k).1 = 0 ∨ ((bpt g k).2 = g (bpt g k).1 ∧ g (bpt g k).1 < 1000000 ∧ 1 ≤ (bpt g k).1 ∧ (bpt g k).1 < 2 * k)) ∧ (bpt g k).2 ≤ 1000000
  | 0 => ⟨Or.inl rfl, Nat.le_refl _⟩
  | k + 1 => by
    obtain ⟨h1, h2⟩ := bpt_p g k
    unfold bpt
    split
    · rename_i z
      exact ⟨Or.inr ⟨rfl, by show g (2 * k + 1) < 1000000; omega, by show 1 ≤ 2 * k + 1; omega, by show 2 * k + 1 < _; omega⟩, by show g (2 * k + 1) ≤ _; omega⟩
    · exact ⟨h1.imp id fun q => ⟨q.1, q.2.1, q.2.2.1, by omega⟩, h2⟩
theorem bpt_cg {f g : Nat → Nat} : ∀ {k : Nat}, (∀ x, x < k → f (2 * x + 1) = g (2 * x + 1)) → bpt f k = bpt g k
  | 0, _ => rfl
  | k + 1, h => by
    unfold bpt
    rw [bpt_cg (k := k) fun x hx => h x (by omega), h k (by omega)]
theorem xor_0 {a b : Nat} (e : a ^^^ b = 0) : a = b := by
  have h := congrArg (fun z => z ^^^ b) e
  simp only [Nat.xor_assoc, Nat.xor_self, Nat.xor_zero, Nat.zero_xor] at h
  exact h
def gbo (r : Nat → Nat) (n S : Nat) : Nat := min 1000000 (r S + r ((2 ^ n - 1) ^^^ S))
theorem all_x {S : Nat} (hn : n ≤ 8) (hS : S < 2 ^ n) : (2 ^ n - 1) &&& (S ^^^ 255) = (2 ^ n - 1) ^^^ S := Nat.eq_of_testBit_eq fun x => by
  rw [Nat.testBit_and, Nat.testBit_xor, Nat.testBit_xor, Nat.testBit_two_pow_sub_one, show (255 : Nat) = 2 ^ 8 - 1 from rfl, Nat.testBit_two_pow_sub_one]
  by_cases z : x < n
  · rw [decide_eq_true z, decide_eq_true (show x < 8 by omega)]
    cases S.testBit x <;> rfl
  · have : S.testBit x = false := Nat.testBit_lt_two_pow (Nat.lt_of_lt_of_le hS (Nat.pow_le_pow_right (by decide) (by omega)))
    rw [decide_eq_false z, this]
    rfl
theorem rdc_bd {S : Nat} (hn : n ≤ 8) (hS : S < 2 ^ n) (hc : c9 c) (hM : MT m n tb) (hV : INV false c n (2 ^ n) tb) (hlt : rdc false c n (t1 tb) S < 1000000) : rdc false c n (t1 tb) S ≤ 3000 := by
  have h256 := p256 hn
  unfold rdc at hlt ⊢
  split at hlt
  · rename_i h3
    rw [if_pos h3]
    obtain ⟨l, hl, el⟩ := mn_ex hlt
    have l8 : lwt S < 8 := by
      have key : ∀ S, S < 256 → lwt S < 8 := by decide +kernel
      exact key S (by omega)
    rw [← el] at hlt ⊢
    by_cases y : lwt S < l
    · rw [if_pos y] at hlt ⊢
      have h1 := (hV S l hS hl).2.2.2.2
      have t0 : t1 tb S l ≤ 1000000 := (hM S l hS hl).2.2
      have h2 := hc l (lwt S) (by omega) l8
      have e : rop false (t1 tb S l) (c l (lwt S)) = min 1000000 (t1 tb S l + c l (lwt S)) := rfl
      rw [e] at hlt ⊢
      have h1 : t1 tb S l < 1000000 → t1 tb S l ≤ 9 * S := h1
      omega
    · rw [if_neg y] at hlt; omega
  · omega
theorem v_lib {S : Nat} (hn : n ≤ 8) (h5 : m.1 145 5 = Int32.ofNat n) (h6 : m.1 145 6 = zb false) (hC : CT m n c) (hc : c9 c) (hM : MT m n tb) (hV : INV false c n (2 ^ n) tb) (hS : S < 2 ^ n) : f_X0_lostInBoth (Int32.ofNat S) m = some (cm (gbo (rdc false c n (t1 tb)) n S)) := by
  have h256 := p256 hn
  have hp1 : 1 ≤ 2 ^ n := Nat.one_le_two_pow
  have hxS : (2 ^ n - 1) ^^^ S < 2 ^ n := Nat.xor_lt_two_pow (by omega) hS
  have hI := rdc_I (c := c) (n := n) (t := t1 tb) false S
  have hI2 := rdc_I (c := c) (n := n) (t := t1 tb) false ((2 ^ n - 1) ^^^ S)
  unfold f_X0_lostInBoth f_X0_lostInBoth_J27
  rw [v_lr hn h5 h6 hC hc hM hS, Option.bind_some]
  unfold gbo
  by_cases z : rdc false c n (t1 tb) S = 1000000
  · rw [if_pos (by rw [cm_n2 hI]; exact z), if_pos rfl, z, Nat.min_eq_left (by omega)]
    rfl
  · rw [if_neg (by rw [cm_n2 hI]; exact z), v_evb hn h5, Option.bind_some, n_an (by omega) (by omega), all_x hn hS, v_lr hn h5 h6 hC hc hM hxS, Option.bind_some]
    by_cases y : rdc false c n (t1 tb) ((2 ^ n - 1) ^^^ S) = 1000000
    · rw [if_pos (by rw [cm_n2 hI2]; exact y), y, Nat.min_eq_left (by omega)]
      rfl
    · have b1 := rdc_bd hn hS hc hM hV (by omega)
      have b2 := rdc_bd hn hxS hc hM hV (by omega)
      rw [if_neg (by rw [cm_n2 hI2]; exact y), Nat.min_eq_right (by omega)]
      unfold cm
      rw [if_neg z, if_neg y, if_neg (by omega), n_add]
theorem v_part9 (hn : n ≤ 8) (h5 : m.1 145 5 = Int32.ofNat n) (h6 : m.1 145 6 = zb false) (hC : CT m n c) (hc : c9 c) (hM : MT m n tb) (hV : INV false c n (2 ^ n) tb) : f_X0_bestPart m = some (if (bpt (gbo (rdc false c n (t1 tb)) n) ((2 ^ n - 1) / 2)).1 = 0 then -1 else Int32.ofNat (bpt (gbo (rdc false c n (t1 tb)) n) ((2 ^ n - 1) / 2)).1) := by
  have h256 := p256 hn
  have hp1 : 1 ≤ 2 ^ n := Nat.one_le_two_pow
  unfold f_X0_bestPart
  have hl : ∀ S, S < 2 ^ n → f_X0_lostInBoth (Int32.ofNat S) m = some (cm (gbo (rdc false c n (t1 tb)) n S)) := fun S hS => v_lib hn h5 h6 hC hc hM hV hS
  have gI : ∀ S, gbo (rdc false c n (t1 tb)) n S ≤ 1000000 := fun S => by unfold gbo; omega
  generalize gbo (rdc false c n (t1 tb)) n = g at hl gI
  refine lo4 (L := f_X0_bestPart_L7 (fun z4_1 μz4 => some z4_1)) (fun k y1 y2 y3 m1 => y1 = (if (bpt g k).1 = 0 then -1 else Int32.ofNat (bpt g k).1) ∧ y2 = Int32.ofNat (bpt g k).2 ∧ y3 = Int32.ofNat (2 * k + 1) ∧ m1 = m) (fun o => o = _) ((2 ^ n - 1) / 2) (fun k y1 y2 y3 m1 hk hI => Or.inl ?_) (fun y1 y2 y3 m1 hI F => ?_) (fu_lt (by omega)) ⟨rfl, rfl, rfl, rfl⟩
  · obtain ⟨rfl, rfl, rfl, rfl⟩ := hI
    obtain ⟨q1, q2⟩ := bpt_p g k
    have gS := gI (2 * k + 1)
    have es : bpt g (k + 1) = if g (2 * k + 1) < (bpt g k).2 then (2 * k + 1, g (2 * k + 1)) else bpt g k := rfl
    refine ⟨_, _, _, m1, ⟨rfl, rfl, rfl, rfl⟩, fun F => ?_⟩
    rw [f_X0_bestPart_L7, v_evb hn h5, Option.bind_some, if_neg (by rw [n_le (by omega) (by omega)]; omega), hl (2 * k + 1) (by omega), Option.bind_some]
    unfold f_X0_bestPart_J39
    rw [show Int32.ofNat (2 * k + 1) + 2 = Int32.ofNat (2 * (k + 1) + 1) from n_add _ 2, es]
    by_cases z : g (2 * k + 1) < (bpt g k).2
    · rw [if_neg (by rw [cm_n2 gS]; omega), show cm (g (2 * k + 1)) = Int32.ofNat (g (2 * k + 1)) from if_neg (by omega), if_neg (by rw [n_le (by omega) (by omega)]; omega), if_pos z, if_neg (show ¬ 2 * k + 1 = 0 by omega)]
    · rw [if_neg z]
      by_cases y : g (2 * k + 1) = 1000000
      · rw [if_pos (by rw [cm_n2 gS]; exact y)]
      · rw [if_neg (by rw [cm_n2 gS]; exact y), show cm (g (2 * k + 1)) = Int32.ofNat (g (2 * k + 1)) from if_neg y, if_pos (by rw [n_le (by omega) (by omega)]; omega)]
  · obtain ⟨rfl, rfl, rfl, rfl⟩ := hI
    rw [f_X0_bestPart_L7, v_evb hn h5, Option.bind_some, if_pos (by rw [n_le (by omega) (by omega)]; omega)]
theorem v_two10 {v1 : Int32} (hn : n ≤ 8) (hP : PTm m n (2 ^ n) c t) : ∀ e86, f_X10_two_L33 v1 (Int32.ofNat (2 ^ n - 1)) e86 hm_fu (-1) 1000000 1 m = e86 (if (bpt (gbo (fun S => rdr c n t S n) n) ((2 ^ n - 1) / 2)).1 = 0 then -1 else Int32.ofNat (bpt (gbo (fun S => rdr c n t S n) n) ((2 ^ n - 1) / 2)).1) (Int32.ofNat (bpt (gbo (fun S => rdr c n t S n) n) ((2 ^ n - 1) / 2)).2) m := by
  intro e86
  have h256 := p256 hn
  have hp1 : 1 ≤ 2 ^ n := Nat.one_le_two_pow
  generalize hg : gbo (fun S => rdr c n t S n) n = g
  refine lo4 (L := f_X10_two_L33 v1 (Int32.ofNat (2 ^ n - 1)) e86) (fun k y1 y2 y3 m1 => y1 = (if (bpt g k).1 = 0 then -1 else Int32.ofNat (bpt g k).1) ∧ y2 = Int32.ofNat (bpt g k).2 ∧ y3 = Int32.ofNat (2 * k + 1) ∧ m1 = m) (fun o => o = _) ((2 ^ n - 1) / 2) (fun k y1 y2 y3 m1 hk hI => Or.inl ?_) (fun y1 y2 y3 m1 hI F => ?_) (fu_lt (by omega)) ⟨rfl, rfl, rfl, rfl⟩
  · obtain ⟨rfl, rfl, rfl, rfl⟩ := hI
    obtain ⟨q1, q2⟩ := bpt_p g k
    have es : bpt g (k + 1) = if g (2 * k + 1) < (bpt g k).2 then (2 * k + 1, g (2 * k + 1)) else bpt g k := rfl
    have hS : 2 * k + 1 < 2 ^ n := by omega
    have hx2 : (2 ^ n - 1) ^^^ (2 * k + 1) < 2 ^ n := Nat.xor_lt_two_pow (by omega) hS
    have hx1 : 1 ≤ (2 ^ n - 1) ^^^ (2 * k + 1) := by
      rcases Nat.eq_zero_or_pos ((2 ^ n - 1) ^^^ (2 * k + 1)) with e | e
      · have := xor_0 e
        omega
      · exact e
    have r1 := rdr_I (c := c) (n := n) (t := t) (S := 2 * k + 1) n
    have r2 := rdr_I (c := c) (n := n) (t := t) (S := (2 ^ n - 1) ^^^ (2 * k + 1)) n
    have eg : g (2 * k + 1) = min 1000000 (rdr c n t (2 * k + 1) n + rdr c n t ((2 ^ n - 1) ^^^ (2 * k + 1)) n) := by rw [← hg]; rfl
    refine ⟨_, _, _, m1, ⟨rfl, rfl, rfl, rfl⟩, fun F => ?_⟩
    rw [f_X10_two_L33, if_neg (by rw [n_le (by omega) (by omega)]; omega), ld_n (by omega) (by decide), Option.bind_some, n_xor (by omega) (by omega), ld_n (by omega) (by decide), Option.bind_some, (hP _ (by omega) hS).1, (hP _ hx1 hx2).1, n_add, show (1000000 : Int32) = Int32.ofNat 1000000 from rfl, v_less (by omega) (by omega), Option.bind_some, ← eg]
    unfold f_X10_two_J80
    rw [show Int32.ofNat (2 * k + 1) + 2 = Int32.ofNat (2 * (k + 1) + 1) from n_add _ 2, es]
    by_cases z : g (2 * k + 1) < (bpt g k).2
    · rw [if_pos (by rw [n_lt (by omega) (by omega)]; exact z), if_pos z, if_neg (show ¬ 2 * k + 1 = 0 by omega)]
    · rw [if_neg (by rw [n_lt (by omega) (by omega)]; exact z), if_neg z]
  · obtain ⟨rfl, rfl, rfl, rfl⟩ := hI
    rw [f_X10_two_L33, if_pos (by rw [n_le (by omega) (by omega)]; omega)]
theorem pu_two (v1 : Int32) {ν : hm_N} (hL : hm_LL ν μ) (h : PP μ) : ∃ (r : Int32) (μ1 μ2 : hm_M), f_X9_two v1 μ = some (r, μ1) ∧ f_X10_two v1 μ1 = some (r, μ2) ∧ PP μ2 := by
  have no : ¬ (v1 = 0 ∨ v1 = 1) → ∃ (r : Int32) (μ1 μ2 : hm_M), f_X9_two v1 μ = some (r, μ1) ∧ f_X10_two v1 μ1 = some (r, μ2) ∧ PP μ2 := fun z => by
    refine ⟨-1, μ, μ, ?_, ?_, h⟩
    · unfold f_X9_two
      rw [if_neg fun y => z (Or.inl y), if_neg fun y => z (Or.inr y)]
    · unfold f_X10_two
      rw [i01, if_neg z, Option.bind_some, if_pos rfl]
  by_cases z : v1 = 0 ∨ v1 = 1
  · obtain ⟨law, Lw, l1, l2, l3⟩ := lawF h.1
    have hW := ln_109 hL
    have hR := h.1.1.d.b
    have b54 := h.1.1.1
    have h0 : μ.1 65 0 = Int32.ofNat (nat (μ.1 181 54)) := h.1.2.2.2.1.trans b54.1
    have hn : nat (μ.1 181 54) ≤ 8 := by have := b54.2; omega
    have h256 := p256 hn
    have hp1 : 1 ≤ 2 ^ nat (μ.1 181 54) := Nat.one_le_two_pow
    obtain ⟨m4, m6, tb, d1, d2, d3, d4, d5, d6, d7, d8⟩ := core_s (bb := 0) (by omega) hn h0 hR h.1.2.2.2.j l2 hW
    have P6 := fs_PP h (fE_fs d3)
    have e181 : m6.1 181 = μ.1 181 := fs_181 (fE_fs d3)
    obtain ⟨m7, t, r1, r2, r3, r4⟩ := v_rounds (μ := m6) (L := Lw) hn (by rw [e181]; exact b54.1) (by rw [e181]; exact hR) (by rw [e181]; exact l3)
    have h54 : m7.1 181 54 = Int32.ofNat (nat (μ.1 181 54)) := by rw [r4 _ _ (by omega) (by omega) (by omega) (by omega) (by omega), e181]; exact b54.1
    rw [e181] at r2
    generalize hn' : nat (μ.1 181 54) = n at *
    have hT1 := INV_TB hn (dC_c9 hR) (fun S l hS hl => (d7 S l hS hl).2.2) d8
    have hT2 : TB false (cc8 (dC 0 Lw (μ.1 181))) n t := EQ_TB hn fun S l h1 h2 hl => ((r2 S h1 h2).2 l hl).2.2
    have hrr : ∀ S, 1 ≤ S → S < 2 ^ n → rdc false (dC 0 Lw (μ.1 181)) n (t1 tb) S = rdr (dC 0 Lw (μ.1 181)) n t S n := fun S h1 hS => by
      refine rd_eq hn hS h1 (dC_c9 hR) (fun l hl => ⟨?_, ((r2 S h1 hS).2 l hl).2.1⟩) (fun l hl hb => ((r2 S h1 hS).2 l hl).2.2.1 hb)
      cases hb : S.testBit l
      · show (tb S l).1 = _
        rw [(d8 S l hS hl).1 hb, ((r2 S h1 hS).2 l hl).2.2.1 hb]
      · exact TB_un hn hT1 hT2 S hS l hl hb
    have key : bpt (gbo (rdc false (dC 0 Lw (μ.1 181)) n (t1 tb)) n) ((2 ^ n - 1) / 2) = bpt (gbo (fun S => rdr (dC 0 Lw (μ.1 181)) n t S n) n) ((2 ^ n - 1) / 2) := by
      refine bpt_cg fun x hx => ?_
      have hS : 2 * x + 1 < 2 ^ n := by omega
      have hx2 : (2 ^ n - 1) ^^^ (2 * x + 1) < 2 ^ n := Nat.xor_lt_two_pow (by omega) hS
      have hx1 : 1 ≤ (2 ^ n - 1) ^^^ (2 * x + 1) := by
        rcases Nat.eq_zero_or_pos ((2 ^ n - 1) ^^^ (2 * x + 1)) with e | e
        · have := xor_0 e
          omega
        · exact e
      unfold gbo
      rw [hrr _ (by omega) hS, hrr _ hx1 hx2]
    have hM9 := v_part9 hn d4 d5 d6 (dC_c9 hR) d7 d8
    have hl9 : ∀ S, S < 2 ^ n → f_X0_lostInBoth (Int32.ofNat S) m6 = some (cm (gbo (rdc false (dC 0 Lw (μ.1 181)) n (t1 tb)) n S)) := fun S hS => v_lib hn d4 d5 d6 (dC_c9 hR) d7 d8 hS
    have h10 := v_two10 (v1 := v1) hn r2
    rw [← key] at h10
    obtain ⟨q1, q2⟩ := bpt_p (gbo (rdc false (dC 0 Lw (μ.1 181)) n (t1 tb)) n) ((2 ^ n - 1) / 2)
    generalize gbo (rdc false (dC 0 Lw (μ.1 181)) n (t1 tb)) n = g at hM9 h10 q1 q2 hl9
    generalize bpt g ((2 ^ n - 1) / 2) = K at hM9 h10 q1 q2
    have X9 : f_X9_two v1 μ = f_X9_two_J11 v1 μ := by
      unfold f_X9_two
      rcases z with z | z
      · rw [if_pos z]
      · by_cases y : v1 = 0
        · rw [if_pos y]
        · rw [if_neg y, if_pos z]
    have X9b : f_X9_two_J11 v1 μ = some (if K.1 = 0 then -1 else if v1 = 0 then Int32.ofNat K.2 else Int32.ofNat K.1, m6) := by
      unfold f_X9_two_J11
      rw [l1, Option.bind_some, show f_X0_draw 65 law 0 μ = _ from d1, Option.bind_some, show f_X0_solve 0 m4 = _ from d2, Option.bind_some, hM9, Option.bind_some]
      by_cases y : K.1 = 0
      · rw [if_pos y, if_pos y]
        split
        · rw [if_pos rfl]
        · rfl
      · obtain ⟨w1, w2, w3, w4⟩ := q1.resolve_left y
        rw [if_neg y, if_neg y]
        by_cases y2 : v1 = 0
        · rw [if_pos y2, if_pos y2, if_neg (show ¬ Int32.ofNat K.1 = -1 by rw [i_eq, n_toInt (by omega)]; show ¬ ((K.1 : Nat) : Int) = -1; omega), hl9 K.1 (by omega), Option.bind_some, show cm (g K.1) = Int32.ofNat (g K.1) from if_neg (by omega), w1]
        · rw [if_neg y2, if_neg y2]
    have X10 : f_X10_two v1 m6 = some (if K.1 = 0 then -1 else if v1 = 0 then Int32.ofNat K.2 else Int32.ofNat K.1, m7) := by
      unfold f_X10_two
      rw [i01, if_pos z, Option.bind_some, if_neg (by decide), r1, Option.bind_some, v_mny, h54, Option.bind_some, Option.bind_some, n_shl n (by omega), show Int32.ofNat (2 ^ n) - 1 = Int32.ofNat (2 ^ n - 1) from n_sub hp1, h10]
      by_cases y : K.1 = 0
      · rw [if_pos y, if_pos rfl, if_pos y]
      · obtain ⟨w1, w2, w3, w4⟩ := q1.resolve_left y
        rw [if_neg y, if_neg (show ¬ Int32.ofNat K.1 = -1 by rw [i_eq, n_toInt (by omega)]; show ¬ ((K.1 : Nat) : Int) = -1; omega), if_neg y]
        by_cases y2 : v1 = 0
        · rw [if_neg (by rw [y2]; decide), if_pos y2]
        · rw [if_pos (z.resolve_left y2), if_neg y2]
    exact ⟨_, m6, m7, X9.trans X9b, X10, fs_PP P6 (fP10 r3 r4)⟩
  · exact no z
end
