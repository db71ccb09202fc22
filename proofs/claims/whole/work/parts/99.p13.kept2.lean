section
variable {μ : hm_M} {n : Nat} {c : Nat → Nat → Nat} {t : Nat → Nat → Nat} {m : hm_M} {tb : tbl}
/-- drawn and solved -/
theorem core_s {ρ : Nat → Int32} {law : Option Nat} {L : List pc_K} {bb : Nat} (hbb : bb < 3) (hn : n ≤ 8) (h0 : μ.1 65 0 = Int32.ofNat n) (hR : bR ρ) (hJ : VJ μ 65 ρ) (hL : LJ μ law L) (hW : hm_ln μ 109 = 8) : ∃ m4 m6 tb, f_X0_draw 65 law (Int32.ofNat bb) μ = some m4 ∧ f_X0_solve (zb false) m4 = some m6 ∧ fE μ m6 ∧ m6.1 145 5 = Int32.ofNat n ∧ m6.1 145 6 = zb false ∧ CT m6 n (dC bb L ρ) ∧ MT m6 n tb ∧ INV false (dC bb L ρ) n (2 ^ n) tb := by
  obtain ⟨m4, d1, d2, d3, d4⟩ := v_draw (L := L) hbb hn h0 hR hJ hL hW
  obtain ⟨m6, tb, s1, s2, s3, s4, s5⟩ := v_solve (w := false) hn d3 d4 (dC_c9 hR)
  refine ⟨m4, m6, tb, d1, s1, ⟨s4.1.trans d2.1, fun a j z1 z2 z3 z4 => ?_⟩, ?_, s5, fun a b ha hb hab => ?_, s2, s3⟩
  · rw [s4.2 a j (by omega) (by omega) (by omega)]
    exact d2.2 a j z1 z2 z3 z4
  · rw [s4.2 _ _ (by omega) (by omega) (by omega)]; exact d3
  · rw [s4.2 _ _ (by omega) (by omega) (by omega)]; exact d4 a b ha hb hab
theorem fP10 {m m1 : hm_M} (h2 : m1.2 = m.2) (h : ∀ a j, a ≠ 191 → ¬ (a = 179 ∧ 22 ≤ j ∧ j ≤ 25) → a ≠ 196 → a ≠ 200 → a ≠ 201 → m1.1 a j = m.1 a j) : fs m m1 := ⟨congrArg (fun z => z.2) h2, fun a j z => h a j (by unfold scr at z; omega) (by unfold scr at z; omega) (by unfold scr at z; omega) (by unfold scr at z; omega) (by unfold scr at z; omega)⟩
theorem v_kept10 {v1 : Int32} (hn : n ≤ 8) (h54 : m.1 181 54 = Int32.ofNat n) (hP : PTm m n (2 ^ n) c t) : ∀ e59, f_X10_kept_L19 v1 e59 hm_fu 0 1 m = e59 (Int32.ofNat (kpt (fun S => decide (rdr c n t S n < 1000000)) (2 ^ n - 1))) m := by
  intro e59
  have h256 := p256 hn
  have hp1 : 1 ≤ 2 ^ n := Nat.one_le_two_pow
  generalize hf : (fun S => decide (rdr c n t S n < 1000000)) = f
  refine lo3 (L := f_X10_kept_L19 v1 e59) (fun k y2 y3 m1 => y2 = Int32.ofNat (kpt f k) ∧ y3 = Int32.ofNat (1 + k) ∧ m1 = m) (fun o => o = _) (2 ^ n - 1) (fun k y2 y3 m1 hk hI => Or.inl ?_) (fun y2 y3 m1 hI F => ?_) (fu_lt (by omega)) ⟨rfl, rfl, rfl⟩
  · obtain ⟨rfl, rfl, rfl⟩ := hI
    have hkl := kpt_le f k
    have pa := pop_le (kpt f k) (by omega)
    have pb := pop_le (1 + k) (by omega)
    have es : kpt f (k + 1) = if f (k + 1) = true ∧ pop (kpt f k) < pop (k + 1) then k + 1 else kpt f k := rfl
    have hrI := rdr_I (c := c) (n := n) (t := t) (S := 1 + k) n
    have ef : f (k + 1) = decide (rdr c n t (1 + k) n < 1000000) := by rw [← hf, Nat.add_comm 1 k]
    refine ⟨_, _, m1, ⟨rfl, rfl, rfl⟩, fun F => ?_⟩
    rw [f_X10_kept_L19, v_mny, h54, Option.bind_some, n_shl n (by omega), if_neg (by rw [n_le (by omega) (by omega)]; omega), ld_n (by omega) (by decide), Option.bind_some, (hP (1 + k) (by omega) (by omega)).1]
    unfold f_X10_kept_J53
    rw [show Int32.ofNat (1 + k) + 1 = Int32.ofNat (1 + (k + 1)) from n_add _ 1, es, Nat.add_comm k 1]
    rw [Nat.add_comm k 1] at ef
    by_cases y : rdr c n t (1 + k) n < 1000000
    · rw [if_neg (by rw [show (1000000 : Int32) = Int32.ofNat 1000000 from rfl, n_le (by omega) (by omega)]; omega), v_pop10 (1 + k) (by omega), Option.bind_some, v_pop10 (kpt f k) (by omega), Option.bind_some]
      by_cases z : pop (kpt f k) < pop (1 + k)
      · rw [if_neg (by rw [n_le (by omega) (by omega)]; omega), if_pos (show f (1 + k) = true ∧ pop (kpt f k) < pop (1 + k) from ⟨by rw [ef]; exact decide_eq_true y, z⟩)]
      · rw [if_pos (by rw [n_le (by omega) (by omega)]; omega), if_neg (show ¬ (f (1 + k) = true ∧ pop (kpt f k) < pop (1 + k)) from fun q => z q.2)]
    · rw [if_pos (by rw [show (1000000 : Int32) = Int32.ofNat 1000000 from rfl, n_le (by omega) (by omega)]; omega), if_neg (show ¬ (f (1 + k) = true ∧ pop (kpt f k) < pop (1 + k)) by rw [ef, decide_eq_false y]; simp)]
  · obtain ⟨rfl, rfl, rfl⟩ := hI
    rw [f_X10_kept_L19, v_mny, h54, Option.bind_some, n_shl n (by omega), if_pos (by rw [n_le (by omega) (by omega)]; omega)]
theorem i01 {v1 : Int32} : (f_X10_lies v1 (0 : Int32) (1 : Int32)) = some (if v1 = 0 ∨ v1 = 1 then 1 else 0) := by
  rw [v_lies]
  congr 1
  simp only [i_eq, show (0 : Int32).toInt = 0 from rfl, show (1 : Int32).toInt = 1 from rfl]
  by_cases z : v1.toInt = 0 ∨ v1.toInt = 1
  · rw [if_pos z, if_pos (by omega)]
  · rw [if_neg z, if_neg (by omega)]
theorem pu_kept (v1 : Int32) {ν : hm_N} (hL : hm_LL ν μ) (h : PP μ) : ∃ (r : Int32) (μ1 μ2 : hm_M), f_X9_kept v1 μ = some (r, μ1) ∧ f_X10_kept v1 μ1 = some (r, μ2) ∧ PP μ2 := by
  have no : ¬ (v1 = 0 ∨ v1 = 1) → ∃ (r : Int32) (μ1 μ2 : hm_M), f_X9_kept v1 μ = some (r, μ1) ∧ f_X10_kept v1 μ1 = some (r, μ2) ∧ PP μ2 := fun z => by
    refine ⟨-1, μ, μ, ?_, ?_, h⟩
    · unfold f_X9_kept
      rw [if_neg fun y => z (Or.inl y), if_neg fun y => z (Or.inr y)]
    · unfold f_X10_kept
      rw [i01, if_neg z, Option.bind_some, if_pos rfl]
  by_cases z : v1 = 0 ∨ v1 = 1
  · obtain ⟨law, Lw, l1, l2, l3⟩ := lawF h.1
    have hW := ln_109 hL
    have hR := h.1.1.d.b
    have b54 := h.1.1.1
    have h0 : μ.1 65 0 = Int32.ofNat (nat (μ.1 181 54)) := h.1.2.2.2.1.trans b54.1
    have hn : nat (μ.1 181 54) ≤ 8 := by have := b54.2; omega
    have h256 := p256 hn
    have hp1 : 1 ≤ 2 ^ nat (μ.1 181 54) := Nat.one_le_two_pow
    obtain ⟨m4, m6, tb, d1, d2, d3, d4, d5, d6, d7, d8⟩ := core_s (bb := 2) (by omega) hn h0 hR h.1.2.2.2.j l2 hW
    have P6 := fs_PP h (fE_fs d3)
    have e181 : m6.1 181 = μ.1 181 := fs_181 (fE_fs d3)
    obtain ⟨m7, t, r1, r2, r3, r4⟩ := v_rounds (μ := m6) (L := Lw) hn (by rw [e181]; exact b54.1) (by rw [e181]; exact hR) (by rw [e181]; exact l3)
    have h54 : m7.1 181 54 = Int32.ofNat (nat (μ.1 181 54)) := by rw [r4 _ _ (by omega) (by omega) (by omega) (by omega) (by omega), e181]; exact b54.1
    rw [e181] at r2
    generalize hn' : nat (μ.1 181 54) = n at *
    have hT1 := INV_TB hn (dC_c9 hR) (fun S l hS hl => (d7 S l hS hl).2.2) d8
    have hT2 : TB false (cc8 (dC 0 Lw (μ.1 181))) n t := EQ_TB hn fun S l h1 h2 hl => ((r2 S h1 h2).2 l hl).2.2
    have f20 : ∀ a b, a < 8 → b < 8 → dC 2 Lw (μ.1 181) a b < 1000000 → dC 0 Lw (μ.1 181) a b < 1000000 := fun a b ha hb hlt => by
      have := s_lost_le (L := Lw) hR ha hb
      unfold dC at hlt ⊢
      rw [if_neg (by decide)] at hlt ⊢
      by_cases y : s_can Lw (μ.1 181) a b = true
      · rw [if_pos y, if_pos rfl]; omega
      · rw [if_neg y] at hlt; omega
    have f02 : ∀ a b, a < 8 → b < 8 → dC 0 Lw (μ.1 181) a b < 1000000 → dC 2 Lw (μ.1 181) a b < 1000000 := fun a b ha hb hlt => by
      unfold dC at hlt ⊢
      rw [if_neg (by decide)] at hlt ⊢
      by_cases y : s_can Lw (μ.1 181) a b = true
      · rw [if_pos y, if_neg (by decide)]; omega
      · rw [if_neg y] at hlt; omega
    have key : kpt (fun S => decide (rdc false (dC 2 Lw (μ.1 181)) n (t1 tb) S < 1000000)) (2 ^ n - 1) = kpt (fun S => decide (rdr (dC 0 Lw (μ.1 181)) n t S n < 1000000)) (2 ^ n - 1) := by
      refine kpt_cg fun S h1 h2 => ?_
      have hS : S < 2 ^ n := by omega
      have e1 : rdc false (dC 0 Lw (μ.1 181)) n t S = rdr (dC 0 Lw (μ.1 181)) n t S n := rd_eq hn hS h1 (dC_c9 hR) (fun l hl => ⟨rfl, ((r2 S h1 hS).2 l hl).2.1⟩) (fun l hl hb => ((r2 S h1 hS).2 l hl).2.2.1 hb)
      rw [← e1]
      refine decide_eq_decide.mpr ⟨fun q => ?_, fun q => ?_⟩
      · exact rdc_fi hn hS h1 (dC_c9 hR) f20 hT1 hT2 (fun l hl hb => by show (tb S l).1 = _; rw [(d8 S l hS hl).1 hb]) (fun l hl => (d7 S l hS hl).2.2) q
      · exact rdc_fi hn hS h1 (dC_c9 hR) f02 hT2 hT1 (fun l hl hb => ((r2 S h1 hS).2 l hl).2.2.1 hb) (fun l hl => ((r2 S h1 hS).2 l hl).2.1) q
    have hM9 := v_most hn d4 d5 d6 (dC_c9 hR) d7
    have h10 := v_kept10 (v1 := v1) hn h54 r2
    rw [key] at hM9
    generalize hK : kpt (fun S => decide (rdr (dC 0 Lw (μ.1 181)) n t S n < 1000000)) (2 ^ n - 1) = K at hM9 h10
    have hKl : K ≤ 2 ^ n - 1 := by rw [← hK]; exact kpt_le _ _
    have X9 : f_X9_kept v1 μ = f_X9_kept_J11 v1 μ := by
      unfold f_X9_kept
      rcases z with z | z
      · rw [if_pos z]
      · by_cases y : v1 = 0
        · rw [if_pos y]
        · rw [if_neg y, if_pos z]
    have nm : K ≠ 0 → ¬ Int32.ofNat K = -1 := fun _ => by
      rw [i_eq, n_toInt (by omega)]
      show ¬ ((K : Nat) : Int) = -1
      omega
    have X9b : f_X9_kept_J11 v1 μ = some (if K = 0 then -1 else if v1 = 0 then Int32.ofNat (pop K) else Int32.ofNat K, m6) := by
      unfold f_X9_kept_J11
      rw [l1, Option.bind_some, show f_X0_draw 65 law 2 μ = _ from d1, Option.bind_some, show f_X0_solve 0 m4 = _ from d2, Option.bind_some, hM9, Option.bind_some]
      by_cases y : K = 0
      · rw [if_pos y, if_pos y]
        split
        · rw [if_pos rfl]
        · rfl
      · rw [if_neg y, if_neg y]
        by_cases y2 : v1 = 0
        · rw [if_pos y2, if_pos y2, if_neg (nm y), v_popJ K (by omega), Option.bind_some]
        · rw [if_neg y2, if_neg y2]
    have X10 : f_X10_kept v1 m6 = some (if K = 0 then -1 else if v1 = 0 then Int32.ofNat (pop K) else Int32.ofNat K, m7) := by
      unfold f_X10_kept
      rw [i01, if_pos z, Option.bind_some, if_neg (by decide), r1, Option.bind_some, h10]
      by_cases y : K = 0
      · rw [if_pos y, if_pos (by rw [y]; rfl)]
      · rw [if_neg y, if_neg (by rw [show (0 : Int32) = Int32.ofNat 0 from rfl, n_eq (by omega) (by omega)]; exact y)]
        by_cases y2 : v1 = 0
        · rw [if_pos y2, if_pos y2, v_pop10 K (by omega), Option.bind_some]
        · rw [if_neg y2, if_neg y2]
    exact ⟨_, m6, m7, X9.trans X9b, X10, fs_PP P6 (fP10 r3 r4)⟩
  · exact no z
end
