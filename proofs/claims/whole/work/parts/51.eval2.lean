section
/-! The reference works sums and tests out. -/
section
variable {μ : hm_M} {g N : Nat} {tk vl : Nat → Nat} {ord : Bool} {e : Nat → Int32}
theorem ev_leaf {F : Int32 → hm_M → Option (Int64 × hm_M)} {i j : Nat} {x : Int32} (h : ∀ live β, F (zb live) (es μ g i β) = some (if live = true ∧ β = false then x.toInt64 else 0, es μ g j β)) : evS μ g F i j (some x) := by
  intro live β0
  refine ⟨_, β0, h live β0, ?_, fun h1 h2 y hy => ?_⟩
  · simp
  · cases hy
    rw [if_pos ⟨h1, h2⟩]
theorem ev_J94 {kP kS kT : Int32 → hm_M → Option (Int64 × hm_M)} {j : Nat} {c k : Int32} {x : Int32} (live β : Bool) (h : (if c = 50 then Option.bind (hm_ld (es μ g j β) 181 5665 (((2865 : Int32) + ((es μ g j β).1 179 22)) - (1 : Int32))) fun x9 => some (x9.toInt64, es μ g j β) else (if ((es μ g j β).1 179 25) = 0 then Option.bind (hm_ld (es μ g j β) 191 8 (c - (8 : Int32))) fun x7 => some (x7.toInt64, es μ g j β) else Option.bind (f_X10_orderValue c k (es μ g j β)) fun x8 => some (x8.toInt64, es μ g j β))) = some (x.toInt64, es μ g j β)) : f_X10_partOf_J94 kP kS kT (zb live) c k (es μ g j β) = some (if live = true ∧ β = false then x.toInt64 else 0, es μ g j β) := by
  unfold f_X10_partOf_J94
  cases live with
  | false =>
    rw [if_pos (show zb false = 0 from rfl), if_neg (by simp)]
  | true =>
    rw [if_neg (by decide), es_24]
    cases β with
    | false =>
      rw [if_pos (show zb false = 0 from rfl), if_pos (show true = true ∧ false = false from ⟨rfl, rfl⟩)]
      exact h
    | true =>
      rw [if_neg (by decide), if_neg (by simp)]
theorem ev_part (h : TKs μ g N tk vl ord e) {kP kS kT : Int32 → hm_M → Option (Int64 × hm_M)} {ks : Nat → Nat → Nat → pc_C → pc_R pc_S} (hk : ∀ d i l C j l1 C1 s, i ≤ 400 → ks d i l C = .ok (j, l1, C1, s) → evS μ g kS i j (s e) ∧ j ≤ N) {d i l j l1 : Nat} {C C1 : pc_C} {s : pc_S} (hi : i ≤ 400) (hp : pc_part ord tk vl ks d i l C = .ok (j, l1, C1, s)) : evS μ g (f_X10_partOf kP kS kT) i j (s e) := by
  have hN := h.1.1
  have hg := h.1.2
  have e91 : f_X10_sign 91 = some (Int32.ofNat 191) := rfl
  unfold pc_part at hp
  split at hp
  · rename_i c191
    split at hp
    · obtain ⟨j2, l2, C2, t, e1, hp⟩ := pc_b_ok hp
      split at hp
      · cases hp
        have hiN := tk_N h (i := i) (by omega)
        obtain ⟨hk1, hk2⟩ := hk _ _ _ _ _ _ _ _ (by omega) e1
        intro live β0
        obtain ⟨v, β, q1, q2⟩ := hk1 live β0
        refine ⟨v, β, ?_, q2⟩
        unfold f_X10_partOf
        rw [e91, Option.bind_some, ev_pass h (by omega) (by omega), if_pos c191, b2_some, if_neg (by decide), q1, b2_some, ev_step]
        rfl
      · cases hp
    · cases hp
  · rename_i c191
    have hd : ∀ live β, f_X10_partOf kP kS kT (zb live) (es μ g i β) = (if zb ord = 0 then f_X10_partOf_J94 kP kS kT (zb live) (Int32.ofNat (tk i)) 0 (es μ g (i + 1) β) else (if tk i = 20 ∨ tk i = 21 then f_X10_partOf_J70 kP kS kT (zb live) (Int32.ofNat (tk i)) (es μ g (i + 1) β) else f_X10_partOf_J94 kP kS kT (zb live) (Int32.ofNat (tk i)) 0 (es μ g (i + 1) β))) := by
      intro live β
      have hlt := tk_lt h i
      unfold f_X10_partOf
      rw [e91, Option.bind_some, ev_pass h (by omega) (by omega), if_neg c191, b2_some, if_pos rfl, ev_code h (by omega), Option.bind_some, ev_step, Option.bind_some, es_ne (by omega), h.2.2.2.2.1]
      by_cases q : zb ord = 0
      · rw [if_pos q, if_pos q]
      · rw [if_neg q, if_neg q]
        by_cases c20 : tk i = 20
        · rw [if_pos (by rw [c20]; rfl), if_pos (Or.inl c20)]
        · rw [if_neg (by rw [n_lit, n_eq (by omega) (by omega)]; exact c20)]
          by_cases c21 : tk i = 21
          · rw [if_pos (by rw [c21]; rfl), if_pos (Or.inr c21)]
          · rw [if_neg (by rw [n_lit, n_eq (by omega) (by omega)]; exact c21), if_neg (by omega)]
    split at hp
    · split at hp
      · rename_i c50
        cases hp
        have hiN := tk_N h (i := i) (by omega)
        refine ev_leaf fun live β => ?_
        rw [hd, if_neg (show ¬ (tk i = 20 ∨ tk i = 21) by omega), c50.1]
        have key := ev_J94 (kP := kP) (kS := kS) (kT := kT) (μ := μ) (g := g) (j := i + 1) (c := 50) (k := 0) (x := Int32.ofNat (vl i)) live β (by
          rw [if_pos rfl, es_22, (show (2865 : Int32) = Int32.ofNat 2865 from rfl), n_add, (show (1 : Int32) = Int32.ofNat 1 from rfl), n_sub (by omega), ld_n (by omega) (by decide), Option.bind_some, es_ne (by omega), show 2865 + (g + (i + 1)) - 1 = 2865 + g + i by omega, (h.2.1 i hiN).2.1])
        split
        · exact key
        · exact key
      · split at hp
        · cases hp
        · rename_i c50 hw
          split at hp
          · rename_i h5
            split at hp
            · rename_i h6
              cases hp
              have hiN := tk_N h (i := i + 1) (by omega)
              have ho : ord = true := h5.1
              subst ho
              have hc : tk i = 20 ∨ tk i = 21 := by
                have := h5.2
                unfold pc_word at this hw
                simp only [if_true] at this hw
                by_cases q : 15 ≤ tk i ∧ tk i ≤ 21
                · rw [if_pos q] at this; omega
                · rw [if_neg q] at hw; exact absurd rfl hw
              refine ev_leaf fun live β => ?_
              rw [hd, if_neg (by decide), if_pos hc]
              unfold f_X10_partOf_J70
              rw [es_22, (show (2865 : Int32) = Int32.ofNat 2865 from rfl), n_add, ld_n (by omega) (by decide), Option.bind_some, pI_some, (show (1 : Int32) = Int32.ofNat 1 from rfl), n_add, show g + (i + 1) + 1 = g + (i + 2) by omega, es_go, Option.bind_some, es_ne (by omega), show 2865 + (g + (i + 1)) = 2865 + g + (i + 1) by omega, (h.2.1 (i + 1) hiN).2.1]
              refine ev_J94 live β ?_
              have h25 : (es μ g (i + 2) β).1 179 25 = 1 := by
                rw [es_ne (by omega), h.2.2.2.2.1]; rfl
              have hov := (h.2.2.2.2.2.2 rfl (es μ g (i + 2) β) (fun a j q => es_ne q)).2 (vl (i + 1)) h6.2
              rcases hc with hc | hc
              · rw [hc, if_neg (by decide), h25, if_neg (by decide)]
                rw [show Int32.ofNat 20 = 20 from rfl, hov.1]
                rfl
              · rw [hc, if_neg (by decide), h25, if_neg (by decide)]
                rw [show Int32.ofNat 21 = 21 from rfl, hov.2]
                rfl
            · cases hp
          · rename_i h5
            cases hp
            have hz : tk i ≠ 0 := fun z => by
              apply hw
              rw [z]
              cases ord <;> rfl
            refine ev_leaf fun live β => ?_
            rw [hd]
            cases ord with
            | true =>
              have hc : 15 ≤ tk i ∧ tk i ≤ 19 ∧ pc_word true (tk i) = tk i - 15 := by
                unfold pc_word at h5 hw ⊢
                simp only [if_true, true_and] at h5 hw ⊢
                by_cases q : 15 ≤ tk i ∧ tk i ≤ 21
                · rw [if_pos q] at h5 ⊢; omega
                · rw [if_neg q] at hw; exact absurd rfl hw
              rw [if_neg (by decide), if_neg (by omega)]
              refine ev_J94 live β ?_
              have h25 : (es μ g (i + 1) β).1 179 25 = 1 := by
                rw [es_ne (by omega), h.2.2.2.2.1]; rfl
              have hov := (h.2.2.2.2.2.2 rfl (es μ g (i + 1) β) (fun a j q => es_ne q)).1 (tk i) hc.1 hc.2.1 0
              rw [if_neg (by rw [n_lit, n_eq (by omega) (by omega)]; omega), h25, if_neg (by decide), hov, hc.2.2]
              rfl
            | false =>
              have hc : 8 ≤ tk i ∧ tk i ≤ 15 := by
                unfold pc_word at hw
                simp only [Bool.false_eq_true, if_false] at hw
                split at hw
                · omega
                · split at hw
                  · omega
                  · split at hw
                    · omega
                    · exact absurd rfl hw
              rw [if_pos (by decide)]
              refine ev_J94 live β ?_
              have h25 : (es μ g (i + 1) β).1 179 25 = 0 := by
                rw [es_ne (by omega), h.2.2.2.2.1]; rfl
              rw [if_neg (by rw [n_lit, n_eq (by omega) (by omega)]; omega), h25, if_pos rfl, (show (8 : Int32) = Int32.ofNat 8 from rfl), n_sub (by omega), ld_n (by omega) (by decide), Option.bind_some, es_ne (by omega), h.2.2.2.2.2.1 rfl (tk i) hc.1 hc.2]
    · cases hp
/-- a row of operations -/
theorem ev_term (h : TKs μ g N tk vl ord e) {kP kS kT : Int32 → hm_M → Option (Int64 × hm_M)} {kp : Nat → Nat → pc_C → pc_R pc_S} (hk : ∀ i l C j l1 C1 s, i ≤ 400 → kp i l C = .ok (j, l1, C1, s) → evS μ g kP i j (s e) ∧ i < j ∧ j ≤ N) (live β0 : Bool) (E : Int64 → hm_M → Option (Int64 × hm_M)) : ∀ (m i l : Nat) (C : pc_C) (s : pc_S) (j l1 : Nat) (C1 : pc_C) (t : pc_S) (F : Nat) (v : Int64) (β : Bool), i ≤ 400 → N ≤ m + i → m < F → rS live β0 (s e) v β → pc_loop tk pc_mul kp m i l C s = .ok (j, l1, C1, t) → ∃ w γ, f_X10_termOf_L6 kP kS kT (zb live) E F v (es μ g i β) = E w (es μ g j γ) ∧ rS live β0 (t e) w γ := by
  have s42 : f_X10_sign 42 = some (Int32.ofNat 142) := rfl
  have s47 : f_X10_sign 47 = some (Int32.ofNat 147) := rfl
  have s37 : f_X10_sign 37 = some (Int32.ofNat 137) := rfl
  have hN := h.1.1
  have stop : ∀ (i F : Nat) (v : Int64) (β : Bool), i ≤ 400 → pc_mul (tk i) = 0 → f_X10_termOf_L6 kP kS kT (zb live) E (F + 1) v (es μ g i β) = E v (es μ g i β) := by
    intro i F v β hi hz
    have hlt := tk_lt h i
    have n1 : tk i ≠ 142 := fun z => by rw [z] at hz; cases hz
    have n2 : tk i ≠ 147 := fun z => by rw [z] at hz; cases hz
    have n3 : tk i ≠ 137 := fun z => by rw [z] at hz; cases hz
    rw [f_X10_termOf_L6, ev_code h (by omega), Option.bind_some, s42, Option.bind_some, if_neg (by rw [n_eq (by omega) (by omega)]; exact n1), Option.bind_some, s47, Option.bind_some, if_neg (by rw [n_eq (by omega) (by omega)]; exact n2), Option.bind_some, s37, Option.bind_some, if_neg (by rw [n_eq (by omega) (by omega)]; exact n3)]
  intro m
  induction m with
  | zero =>
    intro i l C s j l1 C1 t F v β hi hm hF hr hp
    cases hp
    obtain ⟨F, rfl⟩ : ∃ M, F = M + 1 := ⟨F - 1, by omega⟩
    exact ⟨v, β, stop i F v β hi (by rw [h.2.2.1 i (by omega)]; rfl), hr⟩
  | succ m ih =>
    intro i l C s j l1 C1 t F v β hi hm hF hr hp
    obtain ⟨F, rfl⟩ : ∃ M, F = M + 1 := ⟨F - 1, by omega⟩
    unfold pc_loop at hp
    split at hp
    · rename_i hz
      cases hp
      exact ⟨v, β, stop _ F v β hi hz, hr⟩
    · rename_i hz
      obtain ⟨j2, l2, C2, t2, e1, hp⟩ := pc_b_ok hp
      have hlt := tk_lt h i
      have hiN := tk_N h (i := i) (fun z => by rw [z] at hz; exact hz rfl)
      obtain ⟨k1, k2, k3⟩ := hk _ _ _ _ _ _ _ (by omega) e1
      obtain ⟨w, γ, q1, q2⟩ := k1 live β
      have hL : f_X10_termOf_L6 kP kS kT (zb live) E (F + 1) v (es μ g i β) = f_X10_termOf_J54 kP kS kT (zb live) (f_X10_termOf_L6 kP kS kT (zb live) E F) E v (es μ g i β) := by
        rw [f_X10_termOf_L6, ev_code h (by omega), Option.bind_some, s42, Option.bind_some]
        by_cases n1 : tk i = 142
        · rw [if_pos (by rw [n1])]
        · rw [if_neg (by rw [n_eq (by omega) (by omega)]; exact n1), Option.bind_some, s47, Option.bind_some]
          by_cases n2 : tk i = 147
          · rw [if_pos (by rw [n2])]
          · rw [if_neg (by rw [n_eq (by omega) (by omega)]; exact n2), Option.bind_some, s37, Option.bind_some]
            by_cases n3 : tk i = 137
            · rw [if_pos (by rw [n3])]
            · exfalso
              unfold pc_mul at hz
              rw [if_neg n1, if_neg n2, if_neg n3] at hz
              exact hz rfl
      have h160 : ∀ (z : Int64) (γ : Bool), f_X10_termOf_J160 kP kS kT (zb live) (f_X10_termOf_L6 kP kS kT (zb live) E F) E z (es μ g j2 γ) = f_X10_termOf_L6 kP kS kT (zb live) E F (if (γ || (live && outB z)) = true then 0 else z) (es μ g j2 (γ || (live && outB z))) := by
        intro z γ
        unfold f_X10_termOf_J160
        rw [ev_bnd, b2_some]
      have fin : ∀ z : Int64, (live = true → γ = false → f_X4_workOut (Int32.ofNat (pc_mul (tk i))) v w = some z) → f_X10_termOf_L6 kP kS kT (zb live) E (F + 1) v (es μ g i β) = f_X10_termOf_J160 kP kS kT (zb live) (f_X10_termOf_L6 kP kS kT (zb live) E F) E z (es μ g j2 γ) → ∃ w γ, f_X10_termOf_L6 kP kS kT (zb live) E (F + 1) v (es μ g i β) = E w (es μ g j γ) ∧ rS live β0 (t e) w γ := by
        intro z hz1 hz2
        rw [hz2, h160]
        exact ih _ _ _ _ _ _ _ _ F _ _ (by omega) (by omega) (by omega) (rS_op hr q2 hz1) hp
      have h54 : f_X10_termOf_L6 kP kS kT (zb live) E (F + 1) v (es μ g i β) = (if tk i = 142 then f_X10_termOf_J121 kP kS kT (zb live) (f_X10_termOf_L6 kP kS kT (zb live) E F) E v (Int32.ofNat (tk i)) w (es μ g j2 γ) else if w = 0 then f_X10_termOf_J121 kP kS kT (zb live) (f_X10_termOf_L6 kP kS kT (zb live) E F) E v (Int32.ofNat (tk i)) 1 (es μ g j2 (γ || live)) else f_X10_termOf_J121 kP kS kT (zb live) (f_X10_termOf_L6 kP kS kT (zb live) E F) E v (Int32.ofNat (tk i)) w (es μ g j2 γ)) := by
        rw [hL]
        unfold f_X10_termOf_J54
        rw [ev_code h (by omega), Option.bind_some, ev_step, Option.bind_some, q1, b2_some, s42, Option.bind_some]
        by_cases n1 : tk i = 142
        · rw [if_pos (by rw [n1]), if_pos n1]
        · rw [if_neg (by rw [n_eq (by omega) (by omega)]; exact n1), if_neg n1]
          by_cases w0 : w = 0
          · rw [if_pos ((lg_cmp_eq w 0).mpr w0), if_pos w0, es_24]
            have h115 : ∀ b, f_X10_termOf_J115 kP kS kT (zb live) (f_X10_termOf_L6 kP kS kT (zb live) E F) E (zb b) v (Int32.ofNat (tk i)) (es μ g j2 γ) = f_X10_termOf_J121 kP kS kT (zb live) (f_X10_termOf_L6 kP kS kT (zb live) E F) E v (Int32.ofNat (tk i)) 1 (es μ g j2 b) := by
              intro b
              unfold f_X10_termOf_J115
              rw [zb_pZ, Option.bind_some, es_br]
            cases γ with
            | false =>
              rw [if_pos (by decide)]
              cases live with
              | false => rw [if_pos (by decide)]; exact h115 false
              | true => rw [if_neg (by decide)]; exact h115 true
            | true =>
              rw [if_neg (by decide)]
              exact h115 true
          · rw [if_neg (fun z => w0 ((lg_cmp_eq w 0).mp z)), if_neg w0]
      by_cases n1 : tk i = 142
      · refine fin (v * w) (fun _ _ => by rw [n1]; exact wo_4 v w) ?_
        rw [h54, if_pos n1, n1]
        unfold f_X10_termOf_J121
        rw [s42, Option.bind_some, if_pos rfl]
      · rw [if_neg n1] at h54
        have n23 : tk i = 147 ∨ tk i = 137 := by
          unfold pc_mul at hz
          by_cases n2 : tk i = 147
          · exact Or.inl n2
          · by_cases n3 : tk i = 137
            · exact Or.inr n3
            · rw [if_neg n1, if_neg n2, if_neg n3] at hz
              exact absurd rfl hz
        by_cases w0 : w = 0
        · rw [if_pos w0] at h54
          have last : ∀ z, f_X10_termOf_L6 kP kS kT (zb live) E (F + 1) v (es μ g i β) = f_X10_termOf_J160 kP kS kT (zb live) (f_X10_termOf_L6 kP kS kT (zb live) E F) E z (es μ g j2 (γ || live)) → ∃ w γ, f_X10_termOf_L6 kP kS kT (zb live) E (F + 1) v (es μ g i β) = E w (es μ g j γ) ∧ rS live β0 (t e) w γ := by
            intro z hz2
            have r2 := rS_op (z := 1000000001) (op := Int32.ofNat (pc_mul (tk i))) hr q2 (fun _ _ => by
              rw [w0]
              rcases n23 with n2 | n2
              · rw [n2]; exact (wo_5 v 0).trans (if_pos rfl)
              · rw [n2]; exact (wo_6 v 0).trans (if_pos rfl))
            have ob : outB 1000000001 = true := by decide
            rw [ob] at r2
            rw [hz2, h160]
            refine ih _ _ _ _ _ _ _ _ F _ _ (by omega) (by omega) (by omega) ?_ hp
            cases live with
            | false =>
              simp only [Bool.false_and, Bool.or_false] at r2 ⊢
              exact ⟨r2.1, fun q => by cases q⟩
            | true =>
              simp only [Bool.true_and, Bool.or_true, Bool.true_or, if_true] at r2 ⊢
              exact r2
          rcases n23 with n2 | n2
          · refine last (v / 1) ?_
            rw [h54, n2]
            unfold f_X10_termOf_J121
            rw [s42, Option.bind_some, if_neg (by decide), s47, Option.bind_some, if_pos rfl]
            rfl
          · refine last (v - v / 1 * 1) ?_
            rw [h54, n2]
            unfold f_X10_termOf_J121
            rw [s42, Option.bind_some, if_neg (by decide), s47, Option.bind_some, if_neg (by decide)]
            rfl
        · rw [if_neg w0] at h54
          rcases n23 with n2 | n2
          · refine fin (v / w) (fun _ _ => by rw [n2]; exact (wo_5 v w).trans (if_neg w0)) ?_
            rw [h54, n2]
            unfold f_X10_termOf_J121 hm_dvJ
            rw [s42, Option.bind_some, if_neg (by decide), s47, Option.bind_some, if_pos rfl, if_neg w0]
            rfl
          · refine fin (v - v / w * w) (fun _ _ => by rw [n2]; exact (wo_6 v w).trans (if_neg w0)) ?_
            rw [h54, n2]
            unfold f_X10_termOf_J121 hm_rmJ
            rw [s42, Option.bind_some, if_neg (by decide), s47, Option.bind_some, if_neg (by decide), if_neg w0]
            rfl
theorem ev_suml (h : TKs μ g N tk vl ord e) {kP kS kT : Int32 → hm_M → Option (Int64 × hm_M)} {kp : Nat → Nat → pc_C → pc_R pc_S} (hk : ∀ i l C j l1 C1 s, i ≤ 400 → kp i l C = .ok (j, l1, C1, s) → evS μ g kT i j (s e) ∧ i < j ∧ j ≤ N) (live β0 : Bool) (E : Int64 → hm_M → Option (Int64 × hm_M)) : ∀ (m i l : Nat) (C : pc_C) (s : pc_S) (j l1 : Nat) (C1 : pc_C) (t : pc_S) (F : Nat) (v : Int64) (β : Bool), i ≤ 400 → N ≤ m + i → m < F → rS live β0 (s e) v β → pc_loop tk pc_add kp m i l C s = .ok (j, l1, C1, t) → ∃ w γ, f_X10_sumOf_L6 kP kS kT (zb live) E F v (es μ g i β) = E w (es μ g j γ) ∧ rS live β0 (t e) w γ := by
  have s43 : f_X10_sign 43 = some (Int32.ofNat 143) := rfl
  have s45 : f_X10_sign 45 = some (Int32.ofNat 145) := rfl
  have hN := h.1.1
  have stop : ∀ (i F : Nat) (v : Int64) (β : Bool), i ≤ 400 → pc_add (tk i) = 0 → f_X10_sumOf_L6 kP kS kT (zb live) E (F + 1) v (es μ g i β) = E v (es μ g i β) := by
    intro i F v β hi hz
    have hlt := tk_lt h i
    have n1 : tk i ≠ 143 := fun z => by rw [z] at hz; cases hz
    have n2 : tk i ≠ 145 := fun z => by rw [z] at hz; cases hz
    rw [f_X10_sumOf_L6, ev_code h (by omega), Option.bind_some, s43, Option.bind_some, if_neg (by rw [n_eq (by omega) (by omega)]; exact n1), Option.bind_some, s45, Option.bind_some, if_neg (by rw [n_eq (by omega) (by omega)]; exact n2)]
  intro m
  induction m with
  | zero =>
    intro i l C s j l1 C1 t F v β hi hm hF hr hp
    cases hp
    obtain ⟨F, rfl⟩ : ∃ M, F = M + 1 := ⟨F - 1, by omega⟩
    exact ⟨v, β, stop i F v β hi (by rw [h.2.2.1 i (by omega)]; rfl), hr⟩
  | succ m ih =>
    intro i l C s j l1 C1 t F v β hi hm hF hr hp
    obtain ⟨F, rfl⟩ : ∃ M, F = M + 1 := ⟨F - 1, by omega⟩
    unfold pc_loop at hp
    split at hp
    · rename_i hz
      cases hp
      exact ⟨v, β, stop _ F v β hi hz, hr⟩
    · rename_i hz
      obtain ⟨j2, l2, C2, t2, e1, hp⟩ := pc_b_ok hp
      have hlt := tk_lt h i
      have hiN := tk_N h (i := i) (fun z => by rw [z] at hz; exact hz rfl)
      obtain ⟨k1, k2, k3⟩ := hk _ _ _ _ _ _ _ (by omega) e1
      obtain ⟨w, γ, q1, q2⟩ := k1 live β
      have n12 : tk i = 143 ∨ tk i = 145 := by
        unfold pc_add at hz
        by_cases n2 : tk i = 143
        · exact Or.inl n2
        · by_cases n3 : tk i = 145
          · exact Or.inr n3
          · rw [if_neg n2, if_neg n3] at hz
            exact absurd rfl hz
      have hL : f_X10_sumOf_L6 kP kS kT (zb live) E (F + 1) v (es μ g i β) = f_X10_sumOf_J38 kP kS kT (zb live) (f_X10_sumOf_L6 kP kS kT (zb live) E F) E v (es μ g i β) := by
        rw [f_X10_sumOf_L6, ev_code h (by omega), Option.bind_some, s43, Option.bind_some]
        by_cases n1 : tk i = 143
        · rw [if_pos (by rw [n1])]
        · rw [if_neg (by rw [n_eq (by omega) (by omega)]; exact n1), Option.bind_some, s45, Option.bind_some, if_pos (by rw [show tk i = 145 by omega])]
      have h95 : ∀ (z : Int64) (γ : Bool), f_X10_sumOf_J95 kP kS kT (zb live) (f_X10_sumOf_L6 kP kS kT (zb live) E F) E z (es μ g j2 γ) = f_X10_sumOf_L6 kP kS kT (zb live) E F (if (γ || (live && outB z)) = true then 0 else z) (es μ g j2 (γ || (live && outB z))) := by
        intro z γ
        unfold f_X10_sumOf_J95
        rw [ev_bnd, b2_some]
      have fin : ∀ z : Int64, f_X4_workOut (Int32.ofNat (pc_add (tk i))) v w = some z → f_X10_sumOf_L6 kP kS kT (zb live) E (F + 1) v (es μ g i β) = f_X10_sumOf_J95 kP kS kT (zb live) (f_X10_sumOf_L6 kP kS kT (zb live) E F) E z (es μ g j2 γ) → ∃ w γ, f_X10_sumOf_L6 kP kS kT (zb live) E (F + 1) v (es μ g i β) = E w (es μ g j γ) ∧ rS live β0 (t e) w γ := by
        intro z hz1 hz2
        rw [hz2, h95]
        exact ih _ _ _ _ _ _ _ _ F _ _ (by omega) (by omega) (by omega) (rS_op hr q2 fun _ _ => hz1) hp
      rcases n12 with n1 | n1
      · refine fin (v + w) (by rw [n1]; exact wo_2 v w) ?_
        rw [hL]
        unfold f_X10_sumOf_J38 f_X10_sumOf_J59
        rw [ev_code h (by omega), Option.bind_some, s43, Option.bind_some, if_pos (by rw [n1]), ev_step, Option.bind_some, q1, b2_some, if_neg (by decide)]
      · refine fin (v - w) (by rw [n1]; exact wo_3 v w) ?_
        rw [hL]
        unfold f_X10_sumOf_J38 f_X10_sumOf_J59
        rw [ev_code h (by omega), Option.bind_some, s43, Option.bind_some, if_neg (by rw [n_eq (by omega) (by omega)]; omega), ev_step, Option.bind_some, q1, b2_some, if_pos rfl]
theorem ev_sum (h : TKs μ g N tk vl ord e) : ∀ (n d i l : Nat) (C : pc_C) (j l1 : Nat) (C1 : pc_C) (s : pc_S) (M : Nat), 3 * n ≤ M → i ≤ 400 → pc_sum ord tk vl n d i l C = .ok (j, l1, C1, s) → evS μ g (K_X10_partOf M).2.1 i j (s e) := by
  have hN := h.1.1
  have hW := h.2.2.1
  intro n
  induction n with
  | zero =>
    intro d i l C j l1 C1 s M _ _ hp
    cases hp
  | succ n ih =>
    intro d i l C j l1 C1 s M hM hi hp
    obtain ⟨M, rfl⟩ : ∃ K, M = K + 3 := ⟨M - 3, by omega⟩
    have sok : ∀ d i l C j l1 C1 s, pc_sum ord tk vl n d i l C = .ok (j, l1, C1, s) → okS N (if ord = true then 21 else 8) bS i l C j l1 C1 s := fun d i l C j l1 C1 s z => sum_ok hW rfl n d i l C j l1 C1 s z
    have evp : ∀ d i l C j l1 C1 s, i ≤ 400 → pc_part ord tk vl (pc_sum ord tk vl n) d i l C = .ok (j, l1, C1, s) → evS μ g (K_X10_partOf (M + 1)).1 i j (s e) ∧ i < j ∧ j ≤ N := by
      intro d i l C j l1 C1 s hi z
      have ok := part_ok (W := if ord = true then 21 else 8) hW rfl sok z
      refine ⟨ev_part h (fun d i l C j l1 C1 s hi z => ⟨ih d i l C j l1 C1 s M (by omega) hi z, (sok _ _ _ _ _ _ _ _ z).1.2.2.2.1⟩) hi z, ok.1.1, ok.1.2.2.2.1⟩
    have evt : ∀ d i l C j l1 C1 s, i ≤ 400 → pc_term ord tk vl (pc_sum ord tk vl n) d i l C = .ok (j, l1, C1, s) → evS μ g (K_X10_partOf (M + 2)).2.2 i j (s e) ∧ i < j ∧ j ≤ N := by
      intro d i l C j l1 C1 s hi z
      have ok := term_ok (W := if ord = true then 21 else 8) hW rfl sok z
      refine ⟨?_, ok.1.1, ok.1.2.2.2.1⟩
      unfold pc_term at z
      obtain ⟨j2, l2, C2, t, e1, z⟩ := pc_b_ok z
      obtain ⟨k1, k2, k3⟩ := evp _ _ _ _ _ _ _ _ hi e1
      intro live β0
      obtain ⟨v, β, q1, q2⟩ := k1 live β0
      obtain ⟨w, γ, q3, q4⟩ := ev_term h (kP := (K_X10_partOf (M + 1)).1) (kS := (K_X10_partOf (M + 1)).2.1) (kT := (K_X10_partOf (M + 1)).2.2) (evp d) live β0 (fun z22_2 μz22 => some (z22_2, μz22)) 400 _ _ _ _ _ _ _ _ hm_fu v β (by omega) (by omega) (fu_lt (by decide)) q2 z
      refine ⟨w, γ, ?_, q4⟩
      show f_X10_termOf (K_X10_partOf (M + 1)).1 (K_X10_partOf (M + 1)).2.1 (K_X10_partOf (M + 1)).2.2 (zb live) (es μ g i β0) = _
      unfold f_X10_termOf
      rw [q1, b2_some]
      exact q3
    unfold pc_sum at hp
    obtain ⟨j2, l2, C2, t, e1, z⟩ := pc_b_ok hp
    obtain ⟨k1, k2, k3⟩ := evt _ _ _ _ _ _ _ _ hi e1
    intro live β0
    obtain ⟨v, β, q1, q2⟩ := k1 live β0
    obtain ⟨w, γ, q3, q4⟩ := ev_suml h (kP := (K_X10_partOf (M + 2)).1) (kS := (K_X10_partOf (M + 2)).2.1) (kT := (K_X10_partOf (M + 2)).2.2) (evt d) live β0 (fun z15_2 μz15 => some (z15_2, μz15)) 400 _ _ _ _ _ _ _ _ hm_fu v β (by omega) (by omega) (fu_lt (by decide)) q2 z
    refine ⟨w, γ, ?_, q4⟩
    show f_X10_sumOf (K_X10_partOf (M + 2)).1 (K_X10_partOf (M + 2)).2.1 (K_X10_partOf (M + 2)).2.2 (zb live) (es μ g i β0) = _
    unfold f_X10_sumOf
    rw [q1, b2_some]
    exact q3
end
end
