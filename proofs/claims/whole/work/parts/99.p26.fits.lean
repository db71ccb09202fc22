section
/-! Rings that fit what was seen. -/
variable {μ : hm_M} {n : Nat} {c c0 : Nat → Nat → Nat} {ρ : Nat → Int32} {P : Nat}
theorem find_in {α : Type} {A R : α → Bool} {l : List α} {g : α} (h : l.find? A = some g) (hR : R g = true) (hs : ∀ r, r ∈ l → R r = true → A r = true) : l.find? R = some g := by
  rw [List.find?_eq_some_iff_append] at h ⊢
  obtain ⟨-, as, bs, e, h2⟩ := h
  refine ⟨hR, as, bs, e, fun a ha => ?_⟩
  have := h2 a ha
  cases hr : R a
  · rfl
  · rw [hs a (by rw [e]; exact List.mem_append_left _ ha) hr] at this; cases this
/-- what the table's count of least ways means -/
theorem fit_cnt (h3 : 3 ≤ n) (hF : FTc n c0 c ρ P) (hc : c9 c) (hs : ∀ a b, c a b = c b a) (hE : Hc false (cc8 c) n (n - 1) 1 0 + P = n) : Wc (cc8 c) n (n - 1) 1 0 / 2 = (rws n (n - 1) 1).countP fun r => ori r && (finr c0 0 r && soP n ρ r) := by
  have e1 : Wc (cc8 c) n (n - 1) 1 0 = (rws n (n - 1) 1).countP fun r => finr c0 0 r && soP n ρ r := by
    unfold Wc
    refine List.countP_congr fun r hr => ?_
    rw [decide_eq_true_eq, (hF r hr).2]
    omega
  have e2 := cnt_half (n := n) (k := n - 1) (U := 1) (P := fun r => finr c0 0 r && soP n ρ r) (by omega) fun r hr => by
    have a1 := (hF r hr).2
    have a2 := (hF r.reverse (rev_mem hr)).2
    rw [pth_rev (cc8_s hs)] at a2
    exact Bool.eq_iff_iff.mpr (a2.trans a1.symm)
  rw [e1, e2, Nat.mul_div_cancel_left _ (by decide)]
theorem fit_none (hF : FTc n c0 c ρ P) (hn : n ≤ 8) (hc : c9 c) (hE : ¬ Hc false (cc8 c) n (n - 1) 1 0 + P = n) : (rws n (n - 1) 1).countP (fun r => ori r && (finr c0 0 r && soP n ρ r)) = 0 := by
  rw [List.countP_eq_zero]
  intro r hr q
  rw [Bool.and_eq_true] at q
  have a1 := (hF r hr).2.1 q.2
  have a2 := Hc_le (w := false) (c := cc8 c) (l := 0) hr
  obtain ⟨g, g1, g2⟩ := Hc_ex (w := false) (n := n) (k := n - 1) (U := 1) (l := 0) (cc8_I hc) (by omega)
  have := (hF g g1).1
  omega
theorem fit_first (h3 : 3 ≤ n) (hn : n ≤ 8) (hF : FTc n c0 c ρ P) (hc : c9 c) (hs : ∀ a b, c a b = c b a) (hE : Hc false (cc8 c) n (n - 1) 1 0 + P = n) : ∃ g, Grd false (cc8 c) n (Hc false (cc8 c) n (n - 1) 1 0) (n - 1) 1 0 0 g ∧ (rws n (n - 1) 1).find? (fun r => ori r && (finr c0 0 r && soP n ρ r)) = some g ∧ ¬ (rws n (n - 1) 1).countP (fun r => ori r && (finr c0 0 r && soP n ρ r)) = 0 := by
  obtain ⟨k, hk⟩ : ∃ k, n - 1 = k + 1 := ⟨n - 2, by omega⟩
  have hI := Hc_I (w := false) (n := n) (cc8_I hc) (n - 1) 1 0
  have hB : rop false 0 (Hc false (cc8 c) n (n - 1) 1 0) ≤ Hc false (cc8 c) n (n - 1) 1 0 := by rw [rop_0 hI]; exact Nat.le_refl _
  obtain ⟨g, hg⟩ := Grd_ex (w := false) (n := n) (c := cc8 c) (k := n - 1) (U := 1) (l := 0) (s := 0) (cc8_I hc) (show Hc false (cc8 c) n (n - 1) 1 0 < 1000000 by omega) (by omega) hB
  have hf := Grd_find hB hg
  have ho : g ∈ rws n (n - 1) 1 ∧ rop false 0 (pth false (cc8 c) 0 0 g) ≤ Hc false (cc8 c) n (n - 1) 1 0 ∧ ori g = true := by
    rw [hk] at hB hg ⊢
    exact Grd_ori (cc8_s hs) (by omega) hB hg
  obtain ⟨o1, o2, o3⟩ := ho
  have fg := hF g o1
  have hle : pth false (cc8 c) 0 0 g + P = n := by
    rw [rop_f, Nat.zero_add] at o2
    have := fg.1
    omega
  have hfit := fg.2.2 hle
  have hR : (ori g && (finr c0 0 g && soP n ρ g)) = true := by rw [o3, hfit]; rfl
  refine ⟨g, hg, find_in hf hR fun r hr q => ?_, fun z => ?_⟩
  · rw [Bool.and_eq_true] at q
    have := (hF r hr).2.1 q.2
    rw [decide_eq_true_eq, rop_f, Nat.zero_add]
    omega
  · exact (List.countP_eq_zero.mp z) g o1 hR
theorem pu_fits (v1 : Int32) {ν : hm_N} (hL : hm_LL ν μ) (h : PP μ) : ∃ (r : Int32) (μ1 μ2 : hm_M), f_X9_fits v1 μ = some (r, μ1) ∧ f_X10_fits v1 μ1 = some (r, μ2) ∧ PP μ2 := by
  obtain ⟨law, Lw, l1, l2, l3⟩ := lawF h.1
  have hR := h.1.1.d.b
  have b54 := h.1.1.1
  have hn : nat (μ.1 181 54) ≤ 8 := by have := b54.2; omega
  have h256 := p256 hn
  have hp1 : 1 ≤ 2 ^ nat (μ.1 181 54) := Nat.one_le_two_pow
  have hSN := SN_of h
  obtain ⟨c, P, m4, m6, tb, d1, d2, d3, d4, d5, d6, d7, d8, hc, hs, hP, hF⟩ := core_seen hL h rfl l2
  have P6 := fs_PP h (fE_fs d3)
  have e181 : m6.1 181 = μ.1 181 := fs_181 (fE_fs d3)
  obtain ⟨m7, r1, r2, r3⟩ := v_laysR (m := m6) (L := Lw) hn e181 b54.1 hSN hR l3
  generalize hn' : nat (μ.1 181 54) = n at *
  generalize hρ : μ.1 181 = ρ at *
  have hT := INV_TB hn hc (fun S l hS hl => (d7 S l hS hl).2.2) d8
  have hh := v_hasR hn d4 d5 d6 hc hs d7 d8 hP
  have X9 : ∀ Q : Int32 → Prop, Q (if 3 ≤ n ∧ Hc false (cc8 c) n (n - 1) 1 0 + P = n then (if v1 = 0 then Int32.ofNat (Wc (cc8 c) n (n - 1) 1 0 / 2) else if 0 ≤ (v1 - 1).toInt ∧ (v1 - 1).toInt < n then (match FG (cc8 (dC 0 Lw ρ)) n ρ with
      | (_, _, some g, _) => Int32.ofNat (rowg g (nat (v1 - 1)))
      | _ => -1) else -1) else if v1 = 0 then 0 else -1) → ∃ r, f_X9_fits v1 μ = some (r, m6) ∧ Q r := fun Q hQ => by
    refine ⟨_, ?_, hQ⟩
    unfold f_X9_fits
    rw [l1, Option.bind_some, d1, b2_some, show f_X0_solve 0 m4 = _ from d2, Option.bind_some, hh, Option.bind_some]
    by_cases hE : 3 ≤ n ∧ Hc false (cc8 c) n (n - 1) 1 0 + P = n
    · rw [if_pos hE, decide_eq_true hE]
      obtain ⟨h3, hE⟩ := hE
      obtain ⟨k, hk⟩ : ∃ k, n = k + 2 := ⟨n - 2, by omega⟩
      have hk1 : n - 1 = k + 1 := by omega
      have ed : Int32.ofNat n - Int32.ofNat P = Int32.ofNat (Hc false (cc8 c) n (n - 1) 1 0) := by
        rw [n_sub (by omega), show n - P = Hc false (cc8 c) n (n - 1) 1 0 by omega]
      rw [ed]
      by_cases z : v1 = 0
      · rw [if_pos z, if_pos z, if_neg (show ¬ zb true = 0 by decide)]
        have := v_cntR hn hk d4 d5 d6 hc hs d7 d8 (by rw [← hk1]; omega)
        rw [← hk1] at this
        rw [this, Option.bind_some]
      · rw [if_neg z, if_neg z, if_neg (show ¬ zb true = 0 by decide)]
        unfold f_X0_inRow
        rw [d4]
        simp only [i_lt, n_toInt (show n < 2147483648 by omega), show (0 : Int32).toInt = 0 from rfl]
        by_cases y1 : (v1 - 1).toInt < 0
        · rw [if_pos y1, if_neg (by omega)]
          rfl
        · rw [if_neg y1]
          by_cases y2 : (v1 - 1).toInt < n
          · rw [if_pos y2, if_pos ⟨by omega, y2⟩]
            obtain ⟨q, eq0, eq, lq⟩ := v_of (x := v1 - 1) (by omega)
            have hq : q < n := by omega
            rw [eq0, nat_n (by omega)]
            obtain ⟨g, g1, g2, g3⟩ := fit_first h3 hn (hF h3) hc hs hE
            have := v_inL hn d4 d5 d6 hc hs d7 hT (show Hc false (cc8 c) n (n - 1) 1 0 < 900000 by omega) (fun z6_3 μz6 => some z6_3) q (n - 1) 0 1 0 0 g hm_fu g1 (by omega) (fu_lt (by omega)) (by omega) (by
              have : 2 ^ 2 ≤ 2 ^ n := Nat.pow_le_pow_right (by decide) (by omega)
              omega) (by decide) (by omega) (by decide) (by rw [(all_p n hn).2.2]) (Nat.zero_le _)
            rw [Nat.zero_add] at this
            rw [show f_X0_inRow_L25 (Int32.ofNat (Hc false (cc8 c) n (n - 1) 1 0)) (Int32.ofNat q) (fun z6_3 μz6 => some z6_3) hm_fu 0 1 0 0 m6 = _ from this, Option.bind_some]
            have e3 : (FG (cc8 (dC 0 Lw ρ)) n ρ).2.2.1 = some g := by
              unfold FG
              rw [if_pos h3, (fold_g _ _).2.2.1]
              show (if 0 = 0 then _ else _) = _
              rw [if_pos rfl, g2]
            revert e3
            rcases FG (cc8 (dC 0 Lw ρ)) n ρ with ⟨f1, f2, f3, f4⟩
            intro e3
            have e3 : f3 = some g := e3
            rw [e3]
            rfl
          · rw [if_neg y2, if_neg (by omega)]
            rfl
    · rw [if_neg hE, decide_eq_false hE]
      by_cases z : v1 = 0
      · rw [if_pos z, if_pos z, if_pos (show zb false = 0 by rfl)]
      · rw [if_neg z, if_neg z, if_pos (show zb false = 0 by rfl)]
  have hf21 : (FG (cc8 (dC 0 Lw ρ)) n ρ).2.1 = if 3 ≤ n ∧ Hc false (cc8 c) n (n - 1) 1 0 + P = n then Wc (cc8 c) n (n - 1) 1 0 / 2 else 0 := by
    unfold FG
    by_cases h3 : 3 ≤ n
    · rw [if_pos h3, (fold_g _ _).2.1]
      show 0 + _ = _
      rw [Nat.zero_add]
      by_cases hE : Hc false (cc8 c) n (n - 1) 1 0 + P = n
      · rw [if_pos ⟨h3, hE⟩, fit_cnt h3 (hF h3) hc hs hE]
      · rw [if_neg (fun q => hE q.2), fit_none (hF h3) hn hc hE]
    · rw [if_neg h3, if_neg (fun q => h3 q.1)]
  have hvl := v_lies v1 0 (Int32.ofNat n)
  rw [n_toInt (by omega), show (0 : Int32).toInt = 0 from rfl] at hvl
  by_cases hv : 0 ≤ v1.toInt ∧ v1.toInt ≤ (n : Int)
  · obtain ⟨q, rfl, eq, lq⟩ := v_of (x := v1) (by omega)
    have hq : q ≤ n := by omega
    rw [if_pos hv] at hvl
    obtain ⟨r, x9, rfl⟩ := X9 _ rfl
    refine ⟨_, m6, m7, x9, ?_, fs_PP P6 (fG_fs r3)⟩
    unfold f_X10_fits
    rw [v_mny, Option.bind_some, e181, b54.1, hn', hvl, Option.bind_some, if_neg (by decide), r1, Option.bind_some, r2.2.1, hf21]
    by_cases y0 : q = 0
    · rw [y0, if_pos (show Int32.ofNat 0 = 0 from rfl)]
      simp only [if_pos (show Int32.ofNat 0 = 0 from rfl)]
      split <;> rfl
    · have ne0 : ¬ Int32.ofNat q = 0 := by rw [show (0 : Int32) = Int32.ofNat 0 from rfl, n_eq (by omega) (by omega)]; exact y0
      rw [if_neg ne0, if_neg ne0, if_neg ne0]
      by_cases hE : 3 ≤ n ∧ Hc false (cc8 c) n (n - 1) 1 0 + P = n
      · rw [if_pos hE, if_pos hE]
        obtain ⟨h3, hE⟩ := hE
        obtain ⟨g, g1, g2, g3⟩ := fit_first h3 hn (hF h3) hc hs hE
        rw [← fit_cnt h3 (hF h3) hc hs hE] at g3
        have e3 : (FG (cc8 (dC 0 Lw ρ)) n ρ).2.2.1 = some g := by
          unfold FG
          rw [if_pos h3, (fold_g _ _).2.2.1]
          show (if 0 = 0 then _ else _) = _
          rw [if_pos rfl, g2]
        have hb : Wc (cc8 c) n (n - 1) 1 0 ≤ 2097152 := by
          have z1 : Wc (cc8 c) n (n - 1) 1 0 ≤ (rws n (n - 1) 1).length := List.countP_le_length
          have z2 := len_rws hn (n - 1) 1
          have z3 : 8 ^ (n - 1) ≤ 8 ^ 7 := Nat.pow_le_pow_right (by decide) (by omega)
          omega
        have ew : ¬ Int32.ofNat (Wc (cc8 c) n (n - 1) 1 0 / 2) = 0 := by
          rw [show (0 : Int32) = Int32.ofNat 0 from rfl, n_eq (by omega) (by omega)]
          exact g3
        rw [if_neg ew, show (1 : Int32) = Int32.ofNat 1 from rfl, n_sub (by omega), n_toInt (by omega), if_pos ⟨by omega, by omega⟩, nat_n (by omega), ld_n (by omega) (by decide), Option.bind_some, r2.2.2.1 g e3 (q - 1) (by omega)]
        revert e3
        rcases FG (cc8 (dC 0 Lw ρ)) n ρ with ⟨f1, f2, f3, f4⟩
        intro e3
        have e3 : f3 = some g := e3
        rw [e3]
      · rw [if_neg hE, if_neg hE, if_pos (show Int32.ofNat 0 = 0 from rfl)]
  · rw [if_neg hv] at hvl
    have ne0 : ¬ v1 = 0 := fun e => hv (by rw [e]; exact ⟨Int.le_refl _, by show (0 : Int) ≤ _; omega⟩)
    have hv1 : ¬ (0 ≤ (v1 - 1).toInt ∧ (v1 - 1).toInt < n) := by
      have a1 := Int32.toInt_lt v1
      have a2 := Int32.le_toInt v1
      rw [Int32.toInt_sub, show (1 : Int32).toInt = 1 from rfl, Int.bmod_def]
      have : ¬ v1.toInt = 0 := fun e => ne0 (Int32.toInt_inj.mp e)
      split <;> omega
    obtain ⟨r, x9, rfl⟩ := X9 (fun r => r = -1) (by
      rw [if_neg ne0, if_neg ne0, if_neg hv1]
      split <;> rfl)
    refine ⟨_, m6, m6, x9, ?_, P6⟩
    unfold f_X10_fits
    rw [v_mny, Option.bind_some, e181, b54.1, hn', hvl, Option.bind_some, if_pos rfl]
end
