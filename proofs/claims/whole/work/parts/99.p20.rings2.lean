section
/-! How many rings. -/
def sLs (f : List Nat → Nat) : List (List Nat) → Nat
  | [] => 0
  | r :: l => f r + sLs f l
variable {c : Nat → Nat → Nat} {n : Nat} {ρ : Nat → Int32}
theorem fold_g : ∀ (l : List (List Nat)) (st : gS), (l.foldl (gqs c n ρ [] 0) st).1 = st.1 + l.countP (fun r => ori r && finr c 0 r) ∧ (l.foldl (gqs c n ρ [] 0) st).2.1 = st.2.1 + l.countP (fun r => ori r && (finr c 0 r && soP n ρ r)) ∧ (l.foldl (gqs c n ρ [] 0) st).2.2.1 = (if st.2.1 = 0 then (match l.find? (fun r => ori r && (finr c 0 r && soP n ρ r)) with
    | some g => some g
    | none => st.2.2.1) else st.2.2.1) ∧ ∀ a b, (l.foldl (gqs c n ρ [] 0) st).2.2.2 a b = st.2.2.2 a b + sLs (fun r => if (ori r && (finr c 0 r && soP n ρ r)) = true then incN n r a b else 0) l
  | [], st => ⟨rfl, rfl, by simp, fun a b => rfl⟩
  | r :: l, st => by
    rw [List.foldl_cons]
    obtain ⟨h1, h2, h3, h4⟩ := fold_g l (gqs c n ρ [] 0 st r)
    rw [h1, h2, h3]
    simp only [h4]
    have e : gqs c n ρ [] 0 st r = if (ori r && finr c 0 r) = true then gup n (soP n ρ r) r st else st := by
      unfold gqs
      rw [List.nil_append]
      simp only [Bool.and_eq_true]
    rw [e, List.countP_cons, List.countP_cons, List.find?_cons]
    show _ ∧ _ ∧ _ ∧ ∀ a b, _ = _ + ((if (ori r && (finr c 0 r && soP n ρ r)) = true then incN n r a b else 0) + sLs _ l)
    cases ho : ori r <;> cases hf : finr c 0 r <;> cases hs : soP n ρ r <;> simp [gup, Nat.add_assoc, Nat.add_comm, Nat.add_left_comm] <;> (try (split <;> simp_all))
/-- where all holds cost the same -/
theorem pth_1 (h : ∀ a b, c a b = 1 ∨ c a b = 1000000) : ∀ (r : List Nat) (a : Nat), r.length < 1000 → pth false c 0 a r = if finr c a r = true then r.length + 1 else 1000000
  | [], a, _ => by
    show c a 0 = if decide (c a 0 < 1000000) = true then _ else _
    rcases h a 0 with e | e
    · rw [e]; rfl
    · rw [e]; rfl
  | p :: r, a, hl => by
    rw [List.length_cons] at hl
    show rop false (c a p) (pth false c 0 p r) = if (decide (c a p < 1000000) && finr c p r) = true then _ else _
    rw [pth_1 h r p (by omega), rop_f, List.length_cons]
    rcases h a p with e | e
    · rw [e, decide_eq_true (by decide), Bool.true_and]
      split
      · omega
      · omega
    · rw [e, decide_eq_false (by decide)]
      simp only [Bool.false_and, Bool.false_eq_true, if_false]
      split <;> omega
theorem finr_cg {c' : Nat → Nat → Nat} (h : ∀ a b, c a b < 1000000 ↔ c' a b < 1000000) : ∀ (r : List Nat) (a : Nat), finr c a r = finr c' a r
  | [], a => decide_eq_decide.mpr (h a 0)
  | p :: r, a => by
    show (decide (c a p < 1000000) && finr c p r) = (decide (c' a p < 1000000) && finr c' p r)
    rw [finr_cg h r p, decide_eq_decide.mpr (h a p)]
theorem dC2 (L : List pc_K) (a b : Nat) : dC 2 L ρ a b = if s_can L ρ a b = true then 1 else 1000000 := rfl
theorem dC0 (L : List pc_K) (a b : Nat) : dC 0 L ρ a b = if s_can L ρ a b = true then s_lost L ρ a b else 1000000 := rfl
theorem cc_fin (L : List pc_K) (hR : bR ρ) (a b : Nat) : cc8 (dC 2 L ρ) a b < 1000000 ↔ cc8 (dC 0 L ρ) a b < 1000000 := by
  unfold cc8
  by_cases h : a < 8 ∧ b < 8
  · rw [if_pos h, if_pos h]
    have := s_lost_le (L := L) hR h.1 h.2
    rw [dC2, dC0]
    by_cases y : s_can L ρ a b = true
    · rw [if_pos y, if_pos y]; omega
    · rw [if_neg y, if_neg y]
  · rw [if_neg h, if_neg h]
theorem cc_1 (L : List pc_K) (a b : Nat) : cc8 (dC 2 L ρ) a b = 1 ∨ cc8 (dC 2 L ρ) a b = 1000000 := by
  unfold cc8
  by_cases h : a < 8 ∧ b < 8
  · rw [if_pos h, dC2]
    by_cases y : s_can L ρ a b = true
    · rw [if_pos y]; exact Or.inl rfl
    · rw [if_neg y]; exact Or.inr rfl
  · rw [if_neg h]; exact Or.inr rfl
theorem SN_of {μ : hm_M} (h : PP μ) : SNb (μ.1 181) (nat (μ.1 181 54)) := ⟨h.1.1.2.2.2.1, fun k hk => ⟨(h.1.1.2.2.2.2.2.2 k hk).1, (h.1.1.2.2.2.2.2.2 k hk).2.1⟩⟩
theorem pu_rings {μ : hm_M} {ν : hm_N} (hL : hm_LL ν μ) (h : PP μ) : ∃ (r : Int32) (μ1 μ2 : hm_M), f_X9_rings μ = some (r, μ1) ∧ f_X10_rings μ1 = some (r, μ2) ∧ PP μ2 := by
  obtain ⟨law, Lw, l1, l2, l3⟩ := lawF h.1
  have hW := ln_109 hL
  have hR := h.1.1.d.b
  have b54 := h.1.1.1
  have h0 : μ.1 65 0 = Int32.ofNat (nat (μ.1 181 54)) := h.1.2.2.2.1.trans b54.1
  have hn : nat (μ.1 181 54) ≤ 8 := by have := b54.2; omega
  have h256 := p256 hn
  have hp1 : 1 ≤ 2 ^ nat (μ.1 181 54) := Nat.one_le_two_pow
  have hSN := SN_of h
  obtain ⟨m4, m6, tb, d1, d2, d3, d4, d5, d6, d7, d8⟩ := core_s (bb := 2) (by omega) hn h0 hR h.1.2.2.2.j l2 hW
  have P6 := fs_PP h (fE_fs d3)
  have e181 : m6.1 181 = μ.1 181 := fs_181 (fE_fs d3)
  obtain ⟨m7, r1, r2, r3⟩ := v_laysR (m := m6) (L := Lw) hn e181 b54.1 hSN hR l3
  generalize hn' : nat (μ.1 181 54) = n at *
  generalize hρ : μ.1 181 = ρ at *
  have hc2 := dC_c9 (bb := 2) (L := Lw) hR
  have hs2 := dC_cm 2 Lw ρ
  have hT := INV_TB hn hc2 (fun S l hS hl => (d7 S l hS hl).2.2) d8
  have X10 : f_X10_rings m6 = some (Int32.ofNat (FG (cc8 (dC 0 Lw ρ)) n ρ).1, m7) := by
    unfold f_X10_rings
    rw [r1, Option.bind_some, r2.1]
  have X9 : f_X9_rings μ = some (Int32.ofNat (FG (cc8 (dC 0 Lw ρ)) n ρ).1, m6) := by
    unfold f_X9_rings
    rw [l1, Option.bind_some, show f_X0_draw 65 law 2 μ = _ from d1, Option.bind_some, show f_X0_solve 0 m4 = _ from d2, Option.bind_some, v_evb hn d4, Option.bind_some, v_lr hn d4 d5 d6 hc2 d7 (by omega), Option.bind_some]
    unfold FG
    by_cases h3 : 3 ≤ n
    · obtain ⟨k, hk⟩ : ∃ k, n = k + 2 := ⟨n - 2, by omega⟩
      rw [if_pos h3, rd_all hn hk h3 hc2 hs2 hT, show n - 1 = k + 1 by omega, (fold_g _ _).1]
      show _ = some (Int32.ofNat (0 + _), m6)
      rw [Nat.zero_add]
      have hI := Hc_I (w := false) (n := n) (cc8_I hc2) (k + 1) 1 0
      have hp : ∀ r, r ∈ rws n (k + 1) 1 → pth false (cc8 (dC 2 Lw ρ)) 0 0 r = if finr (cc8 (dC 0 Lw ρ)) 0 r = true then k + 2 else 1000000 := fun r hr => by
        have hlr := (mem_rws.mp hr).1
        rw [pth_1 (cc_1 Lw) r 0 (by omega), finr_cg (cc_fin Lw hR) r 0, hlr]
      rcases Nat.lt_or_ge (Hc false (cc8 (dC 2 Lw ρ)) n (k + 1) 1 0) 1000000 with hlt | hge
      · obtain ⟨g, g1, g2⟩ := Hc_ex (cc8_I hc2) hlt
        have hB : Hc false (cc8 (dC 2 Lw ρ)) n (k + 1) 1 0 = k + 2 := by
          rw [hp g g1] at g2
          split at g2 <;> omega
        rw [show cm (Hc false (cc8 (dC 2 Lw ρ)) n (k + 1) 1 0) = Int32.ofNat (Hc false (cc8 (dC 2 Lw ρ)) n (k + 1) 1 0) from if_neg (by omega), v_cntR hn hk d4 d5 d6 hc2 hs2 d7 d8 hlt, Option.bind_some]
        have e1 : Wc (cc8 (dC 2 Lw ρ)) n (k + 1) 1 0 = (rws n (k + 1) 1).countP fun r => finr (cc8 (dC 0 Lw ρ)) 0 r := by
          unfold Wc
          refine List.countP_congr fun r hr => ?_
          rw [decide_eq_true_eq, hB, hp r hr]
          split
          · rename_i q; simp [q]
          · rename_i q
            exact ⟨fun z => absurd z (by omega), fun z => absurd z q⟩
        have e2 := cnt_half (n := n) (k := k + 1) (U := 1) (P := fun r => finr (cc8 (dC 0 Lw ρ)) 0 r) (by omega) fun r hr => by
          have a1 := hp r hr
          have a2 := hp r.reverse (rev_mem hr)
          rw [pth_rev (cc8_s hs2), a1] at a2
          cases q1 : finr (cc8 (dC 0 Lw ρ)) 0 r <;> cases q2 : finr (cc8 (dC 0 Lw ρ)) 0 r.reverse
          · rfl
          · rw [q1, q2] at a2; simp at a2; omega
          · rw [q1, q2] at a2; simp at a2; omega
          · rfl
        rw [e1, e2, Nat.mul_div_cancel_left _ (by decide)]
      · have hIe : Hc false (cc8 (dC 2 Lw ρ)) n (k + 1) 1 0 = 1000000 := by omega
        rw [hIe, show cm 1000000 = -1 from rfl, v_cntN d4 hn, Option.bind_some]
        have e0 : (rws n (k + 1) 1).countP (fun r => ori r && finr (cc8 (dC 0 Lw ρ)) 0 r) = 0 := by
          rw [List.countP_eq_zero]
          intro r hr
          have a1 := hp r hr
          have a2 := Hc_le (w := false) (c := cc8 (dC 2 Lw ρ)) (l := 0) hr
          rw [hIe, a1] at a2
          cases q1 : finr (cc8 (dC 0 Lw ρ)) 0 r
          · simp
          · rw [q1] at a2; simp at a2; omega
        rw [e0]
        rfl
    · have e1 : rdc false (dC 2 Lw ρ) n (t1 tb) (2 ^ n - 1) = 1000000 := by
        unfold rdc
        rw [(all_p n hn).1, if_neg h3]
      rw [e1, show cm 1000000 = -1 from rfl, v_cntN d4 hn, Option.bind_some, if_neg h3]
      rfl
  exact ⟨_, m6, m7, X9, X10, fs_PP P6 (fG_fs r3)⟩
end
