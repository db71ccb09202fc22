section
variable {μ : hm_M} {n : Nat} {c c0 : Nat → Nat → Nat} {ρ : Nat → Int32} {P : Nat}
theorem len_1 (hn : n ≤ 8) (h3 : 3 ≤ n) : (rws n (n - 1) 1).length ≤ 1835008 := by
  obtain ⟨k, rfl⟩ : ∃ k, n = k + 2 := ⟨n - 2, by omega⟩
  have e : (rws (k + 2) (k + 1) 1).length = (rws (k + 2) (k + 1) 1).countP fun _ => true := by rw [List.countP_true]
  show (rws (k + 2) (k + 1) 1).length ≤ _
  rw [e]
  show (cat (fun p => if free 1 p = true then (rws (k + 2) k (1 ||| 2 ^ p)).map (p :: ·) else []) (k + 2)).countP _ ≤ _
  rw [cnt_cat, smf_sh]
  have hz : List.countP (fun _ => true) (if free 1 0 = true then (rws (k + 2) k (1 ||| 2 ^ 0)).map (0 :: ·) else []) = 0 := by
    rw [if_neg (by decide)]; rfl
  rw [hz]
  have hle : smf (fun i => List.countP (fun _ => true) (if free 1 (i + 1) = true then (rws (k + 2) k (1 ||| 2 ^ (i + 1))).map ((i + 1) :: ·) else [])) (k + 1) ≤ smf (fun _ => 262144) (k + 1) := smf_le fun i _ => by
    split
    · rw [List.countP_true, List.length_map]
      have z2 := len_rws hn k (1 ||| 2 ^ (i + 1))
      have z3 : 8 ^ k ≤ 8 ^ 6 := Nat.pow_le_pow_right (by decide) (by omega)
      omega
    · exact Nat.zero_le _
  have hcst : ∀ m, smf (fun _ => 262144) m = m * 262144 := fun m => by
    induction m with
    | zero => rfl
    | succ m ih => show smf (fun _ => 262144) m + 262144 = _; rw [ih]; omega
  rw [hcst] at hle
  omega
theorem sLs_le {f g : List Nat → Nat} : ∀ {l : List (List Nat)}, (∀ x, x ∈ l → f x ≤ g x) → sLs f l ≤ sLs g l
  | [], _ => Nat.le_refl _
  | x :: l, h => Nat.add_le_add (h x List.mem_cons_self) (sLs_le fun y hy => h y (List.mem_cons_of_mem _ hy))
theorem ask_dm : ∀ a, a < 8 → ∀ b, b < 8 → Int32.ofNat (10 * a + b) / 10 = Int32.ofNat a ∧ Int32.ofNat (10 * a + b) - Int32.ofNat a * 10 = Int32.ofNat b ∧ ¬ Int32.ofNat (10 * a + b) = -1 := by decide +kernel
theorem pu_ask (v1 : Int32) {ν : hm_N} (hL : hm_LL ν μ) (h : PP μ) : ∃ (r : Int32) (μ1 μ2 : hm_M), f_X9_ask v1 μ = some (r, μ1) ∧ f_X10_ask v1 μ1 = some (r, μ2) ∧ PP μ2 := by
  have hvl := v_lies v1 0 1
  rw [show (0 : Int32).toInt = 0 from rfl, show (1 : Int32).toInt = 1 from rfl] at hvl
  by_cases hv : v1 = 0 ∨ v1 = 1
  · have hJ : f_X9_ask v1 μ = f_X9_ask_J11 v1 μ := by
      unfold f_X9_ask
      rcases hv with e | e
      · rw [if_pos e]
      · rw [if_neg (by rw [e]; decide), if_pos e]
    have hvl : f_X10_lies v1 0 1 = some 1 := by
      rcases hv with e | e <;> rw [e] <;> rfl
    obtain ⟨law, Lw, l1, l2, l3⟩ := lawF h.1
    have hR := h.1.1.d.b
    have b54 := h.1.1.1
    have hn : nat (μ.1 181 54) ≤ 8 := by have := b54.2; omega
    have hSN := SN_of h
    obtain ⟨c, P, m4, m6, tb, d1, d2, d3, d4, d5, d6, d7, d8, hc, hs, hP, hF⟩ := core_seen hL h rfl l2
    have P6 := fs_PP h (fE_fs d3)
    have e181 : m6.1 181 = μ.1 181 := fs_181 (fE_fs d3)
    obtain ⟨m7, r1, r2, r3⟩ := v_laysR (m := m6) (L := Lw) hn e181 b54.1 hSN hR l3
    have P7 := fs_PP P6 (fG_fs r3)
    have e54 : m7.1 181 54 = Int32.ofNat (nat (μ.1 181 54)) := by rw [fs_181 (fG_fs r3), e181]; exact b54.1
    generalize hn' : nat (μ.1 181 54) = n at *
    generalize hρ : μ.1 181 = ρ at *
    have hh := v_hasR hn d4 d5 d6 hc hs d7 d8 hP
    by_cases hE : 3 ≤ n ∧ Hc false (cc8 c) n (n - 1) 1 0 + P = n
    · rw [decide_eq_true hE] at hh
      obtain ⟨h3, hE⟩ := hE
      have hF := hF h3
      obtain ⟨k, hk⟩ : ∃ k, n = k + 2 := ⟨n - 2, by omega⟩
      have hk1 : n - 1 = k + 1 := by omega
      have hlt : Hc false (cc8 c) n (n - 1) 1 0 < 1000000 := by omega
      have hFW : (FG (cc8 (dC 0 Lw ρ)) n ρ).2.1 = Wc (cc8 c) n (n - 1) 1 0 / 2 := by
        unfold FG
        rw [if_pos h3, (fold_g _ _).2.1]
        show 0 + _ = _
        rw [Nat.zero_add, fit_cnt h3 hF hc hs hE]
      have hF0 : 0 < (FG (cc8 (dC 0 Lw ρ)) n ρ).2.1 := by
        obtain ⟨g, g1, g2, g3⟩ := fit_first h3 hn hF hc hs hE
        rw [hFW, fit_cnt h3 hF hc hs hE]
        omega
      have hFl : (FG (cc8 (dC 0 Lw ρ)) n ρ).2.1 < 1000000 := by
        have z1 : Wc (cc8 c) n (n - 1) 1 0 ≤ (rws n (n - 1) 1).length := List.countP_le_length
        have z2 := len_1 hn h3
        omega
      have hW4 : ∀ a b, (FG (cc8 (dC 0 Lw ρ)) n ρ).2.2.2 a b = sLs (fun r => if (ori r && (finr (cc8 (dC 0 Lw ρ)) 0 r && soP n ρ r)) = true then incN n r a b else 0) (rws n (n - 1) 1) := fun a b => by
        unfold FG
        rw [if_pos h3, (fold_g _ _).2.2.2 a b]
        show 0 + _ = _
        rw [Nat.zero_add]
      have hWF : ∀ a b, a < b → b < n → (FG (cc8 (dC 0 Lw ρ)) n ρ).2.2.2 a b ≤ (FG (cc8 (dC 0 Lw ρ)) n ρ).2.1 := fun a b hab hb => by
        rw [hW4, hFW, fit_cnt h3 hF hc hs hE, ← Nat.mul_one (List.countP _ _), ← sLs_c]
        refine sLs_le fun r hr => ?_
        obtain ⟨q1, q2, q3⟩ := mem_rws.mp hr
        have := inc_1 (r := r) (n := n) (by omega) h3 q2 (fun x hx e => by
          have := (q3 x hx).2
          rw [e] at this
          cases this) a b
        split
        · exact this
        · exact Nat.le_refl _
      have hWc : ∀ a b, a < b → b < n → (FG (cc8 (dC 0 Lw ρ)) n ρ).2.2.2 a b = smf (fun M => if M.testBit 0 = true then cwt c n a b (Hc false (cc8 c) n (n - 1) 1 0) tb M else 0) (2 ^ n) := fun a b hab hb => by
        rw [hW4, next_cnt (fit := fun r => finr (cc8 (dC 0 Lw ρ)) 0 r && soP n ρ r) h3 hab fun r hr => by
          have a1 := (hF r hr).2
          have a2 := (hF r.reverse (rev_mem hr)).2
          rw [pth_rev (cc8_s hs)] at a2
          exact Bool.eq_iff_iff.mpr (a2.trans a1.symm), ← with_cnt hn h3 hc hs (fun S l hS hl => (d7 S l hS hl).2.2) d8 hab hb hlt]
        refine List.countP_congr fun r hr => ?_
        rw [show (finr (cc8 (dC 0 Lw ρ)) 0 r && soP n ρ r) = decide (pth false (cc8 c) 0 0 r = Hc false (cc8 c) n (n - 1) 1 0) from Bool.eq_iff_iff.mpr (by rw [(hF r hr).2, decide_eq_true_eq]; omega)]
      have ed : Int32.ofNat n - Int32.ofNat P = Int32.ofNat (Hc false (cc8 c) n (n - 1) 1 0) := by
        rw [n_sub (by omega), show n - P = Hc false (cc8 c) n (n - 1) 1 0 by omega]
      have hcR := v_cntR hn hk d4 d5 d6 hc hs d7 d8 (by rw [← hk1]; omega)
      rw [← hk1, ← hFW] at hcR
      generalize hFn : (FG (cc8 (dC 0 Lw ρ)) n ρ).2.1 = F at *
      generalize hWn : (FG (cc8 (dC 0 Lw ρ)) n ρ).2.2.2 = W at *
      obtain ⟨v, hvv⟩ : ∃ v : Nat → Nat → Nat, ∀ a b, v a b = max (W a b) (F - W a b) := ⟨_, fun _ _ => rfl⟩
      have hvl' : ∀ a b, a < b → b < n → v a b < 1000000 := fun a b hab hb => by
        have := hWF a b hab hb
        rw [hvv]; omega
      have hla : ∀ a b, a < b → b < n → f_X0_leftAtMost (Int32.ofNat a) (Int32.ofNat b) (Int32.ofNat n - Int32.ofNat P) m6 = some (Int32.ofNat (v a b)) := fun a b hab hb => by
        have q := hWF a b hab hb
        unfold f_X0_leftAtMost
        rw [ed, v_cw hn h3 d4 d6 hc d7 hab hb hlt, ← hWc a b hab hb, Option.bind_some, hcR, Option.bind_some, n_sub q, hvv]
        by_cases z : W a b < F - W a b
        · rw [if_pos (by rw [n_lt (by omega) (by omega)]; exact z), Nat.max_eq_right (by omega)]
        · rw [if_neg (by rw [n_lt (by omega) (by omega)]; exact z), Nat.max_eq_left (by omega)]
      have hb9 := v_best2 hn d4 hvl' hla
      have hb10 := v_best10 (v1 := v1) (v := v) (W := W) (F := F) hn e54 (by rw [← hFn]; exact r2.2.1) hF0 hFl (by rw [← hWn]; exact r2.2.2.2) hWF hvv (fun z11_2 z11_3 μz11 => f_X10_ask_J116 v1 z11_2 z11_3 μz11)
      obtain ⟨a, b, hab, hb, es⟩ := bo_ok (v := v) (n := n) (by omega) hvl' (n - 1) (by omega)
      rw [show n - 1 + 1 = n by omega] at es
      rw [es] at hb9 hb10
      obtain ⟨x1, x2, x3⟩ := ask_dm a (by omega) b (by omega)
      refine ⟨if v1 = 0 then Int32.ofNat (10 * a + b) else Int32.ofNat (v a b), m6, m7, ?_, ?_, P7⟩
      · rw [hJ]
        unfold f_X9_ask_J11
        rw [l1, Option.bind_some, d1, b2_some, show f_X0_solve 0 m4 = _ from d2, Option.bind_some, hh, Option.bind_some, if_neg (show ¬ zb true = 0 by decide), hb9, Option.bind_some]
        by_cases z : v1 = 0
        · rw [if_pos z, if_pos z]
        · rw [if_neg z, if_neg z, if_neg x3]
          show Option.bind (f_X0_leftAtMost (Int32.ofNat (10 * a + b) / 10) (Int32.ofNat (10 * a + b) - Int32.ofNat (10 * a + b) / 10 * 10) (Int32.ofNat n - Int32.ofNat P) m6) _ = _
          rw [x1, x2, hla a b hab hb, Option.bind_some]
      · unfold f_X10_ask
        rw [hvl, Option.bind_some, if_neg (by decide), r1, Option.bind_some, hb10]
        unfold f_X10_ask_J116
        show (if Int32.ofNat (10 * a + b) = -1 then _ else if v1 = 0 then some (Int32.ofNat (10 * a + b), m7) else some (Int32.ofNat (v a b), m7)) = _
        rw [if_neg x3]
        by_cases z : v1 = 0
        · rw [if_pos z, if_pos z]
        · rw [if_neg z, if_neg z]
    · rw [decide_eq_false hE] at hh
      have hF0 : (FG (cc8 (dC 0 Lw ρ)) n ρ).2.1 = 0 := by
        unfold FG
        by_cases h3 : 3 ≤ n
        · rw [if_pos h3, (fold_g _ _).2.1]
          show 0 + _ = _
          rw [Nat.zero_add, fit_none (hF h3) hn hc fun q => hE ⟨h3, q⟩]
        · rw [if_neg h3]
      refine ⟨-1, m6, m7, ?_, ?_, P7⟩
      · rw [hJ]
        unfold f_X9_ask_J11
        rw [l1, Option.bind_some, d1, b2_some, show f_X0_solve 0 m4 = _ from d2, Option.bind_some, hh, Option.bind_some, if_pos (show zb false = 0 by rfl)]
      · unfold f_X10_ask
        obtain ⟨G, hG⟩ : ∃ G, hm_fu = G + 1 := ⟨hm_fu - 1, by have := fu_lt (n := 0) (by omega); omega⟩
        rw [hvl, Option.bind_some, if_neg (by decide), r1, Option.bind_some, hG, f_X10_ask_L23, v_mny, Option.bind_some, r2.2.1, hF0, if_pos (show Int32.ofNat 0 ≤ 0 by decide)]
        have e : f_X10_ask_J116 v1 (-1) 1000000 m7 = some (-1, m7) := rfl
        rw [e]
        split <;> rfl
  · refine ⟨-1, μ, μ, ?_, ?_, h⟩
    · unfold f_X9_ask
      rw [if_neg fun e => hv (Or.inl e), if_neg fun e => hv (Or.inr e)]
    · have : ¬ (0 ≤ v1.toInt ∧ v1.toInt ≤ 1) := fun q => by
        rcases (show v1.toInt = 0 ∨ v1.toInt = 1 by omega) with e | e
        · exact hv (Or.inl (Int32.toInt_inj.mp e))
        · exact hv (Or.inr (Int32.toInt_inj.mp e))
      unfold f_X10_ask
      rw [hvl, if_neg this, Option.bind_some, if_pos rfl]
end
