section
/-! What is lost, who is barred, how one tires: both sides. -/
theorem wI_id (μ : hm_M) (a j : Nat) : hm_wI μ a j (μ.1 a j) = μ := by
  have e : (hm_wI μ a j (μ.1 a j)).1 = μ.1 := by
    funext b k
    by_cases h : b = a ∧ k = j
    · rw [wI_eq h.1 h.2, h.1, h.2]
    · rw [wI_ne h]
  exact Prod.ext e rfl
def cc (h : Nat) (high : Int32) (v : Int32) : Int64 := if h = 2 then (if 0 ≤ lg_cmp 1 0 then (if lg_cmp 1 high.toInt64 ≤ 0 then 1 else high.toInt64) else 0) else if 0 ≤ lg_cmp v.toInt64 0 then (if lg_cmp v.toInt64 high.toInt64 ≤ 0 then v.toInt64 else high.toInt64) else 0
theorem ev_text {μ : hm_M} {g N : Nat} {tk vl : Nat → Nat} {e : Nat → Int32} (h : TKs μ g N tk vl false e) {hd : Nat} (hh : hd < 3) {v2 v3 high wo : Int32} {E : Int64 → hm_M → Option (Int32 × hm_M)} : ∀ (m i l : Nat) (C : pc_C) (A : List pc_K) (C1 : pc_C) (L : List pc_K), C.length ≤ i → l ≤ 50 → pc_text false tk vl N m i l C A = .ok (C1, L) → ∃ L2, L = A ++ L2 ∧ ∀ (F : Nat) (y6 : Int64) (β : Bool), m < F → ∃ γ, f_X10_tells_L69 (Int32.ofNat (hd + 1)) v2 v3 high wo E F y6 (es μ g i β) = E (match pc_told hd e L2 with
    | some v => cc hd high v
    | none => y6) (es μ g (N + 1) γ) := by
  have hN := h.1.1
  have hg := h.1.2
  intro m
  induction m with
  | zero =>
    intro i l C A C1 L _ _ hp
    cases hp
  | succ m ih =>
    intro i l C A C1 L hC hl hp
    unfold pc_text at hp
    split at hp
    · cases hp
    · rename_i j l1 C2 k e1
      have e1' : pc_law1 tk vl i l C = .ok (j, l1, C2, k) := e1
      obtain ⟨⟨⟨a1, a2, a3, a4, a5, a6⟩, a7, a8⟩, b⟩ := one_ok (ord := false) h.2.2.1 hN hC hl e1
      split at hp
      · obtain ⟨L2, rfl, q⟩ := ih _ _ _ _ _ _ (by omega) (by omega) hp
        refine ⟨k :: L2, by simp, fun F y6 β hF => ?_⟩
        obtain ⟨F, rfl⟩ : ∃ M, F = M + 1 := ⟨F - 1, by omega⟩
        obtain ⟨γ, q1⟩ := ev_cl h hC hl e1' hh (v2 := v2) (v3 := v3) (high := high) (wo := wo) (E := E) F y6 β
        obtain ⟨δ, q2⟩ := q F (match pc_cl hd k e with
          | some v => cc hd high v
          | none => y6) γ (by omega)
        refine ⟨δ, q1.trans (q2.trans ?_)⟩
        show _ = E (match (match pc_told hd e L2 with
          | some v => some v
          | none => pc_cl hd k e) with
          | some v => cc hd high v
          | none => y6) (es μ g (N + 1) δ)
        cases pc_told hd e L2 <;> rfl
      · split at hp
        · cases hp
        · cases hp
          refine ⟨[k], rfl, fun F y6 β hF => ?_⟩
          obtain ⟨F, rfl⟩ : ∃ M, F = M + 2 := ⟨F - 2, by omega⟩
          obtain ⟨γ, q1⟩ := ev_cl h hC hl e1' hh (v2 := v2) (v3 := v3) (high := high) (wo := wo) (E := E) (F + 1) y6 β
          refine ⟨γ, q1.trans ?_⟩
          have ej : j = N := by omega
          subst ej
          rw [f_X10_tells_L69, if_pos]
          · rfl
          · rw [es_22, es_ne (by omega), h.2.2.2.1, n_le (by omega) (by omega)]
            omega
/-- the reference's law in force -/
def lawt (ρ : Nat → Int32) (t : Nat) (C : pc_C) (L : List pc_K) : Prop := bd (ρ (58 + t)) 401 ∧ (∀ k, k < nat (ρ (58 + t)) → bd (ρ (65 + 400 * t + k)) 400 ∧ bd (ρ (2865 + 400 * t + k)) 100000000) ∧ pc_text false (tkf (fun k => ρ (65 + 400 * t + k)) (nat (ρ (58 + t)))) (tkf (fun k => ρ (2865 + 400 * t + k)) (nat (ρ (58 + t)))) (nat (ρ (58 + t))) 12 0 0 [] [] = .ok (C, L)
def FL (ρ : Nat → Int32) (L : List pc_K) : Prop := (ρ 57 = -1 ∧ L = []) ∨ ∃ t C, t < 6 ∧ ρ 57 = Int32.ofNat t ∧ lawt ρ t C L
def bR (ρ : Nat → Int32) : Prop := (∀ i, i < 8 → bd (ρ i) 25 ∧ bd (ρ (8 + i)) 5 ∧ bd (ρ (25 + i)) 4) ∧ bd (ρ 24) 1000 ∧ bd (ρ 52) 10
theorem RW.b {ρ : Nat → Int32} (h : RW ρ) : bR ρ := ⟨fun i hi => ⟨(h.2.1 i hi).1, (h.2.1 i hi).2.1, (h.2.1 i hi).2.2.1⟩, h.2.2.1.1, h.2.2.1.2.2.1⟩
/-- the words set, the law's text gone through -/
theorem x10_tells {μ : hm_M} {L : List pc_K} {hd : Nat} {v2 v3 high wo : Int32} {e : Nat → Int32} (hh : hd < 3) (hL : FL (μ.1 181) L) (hs : ∃ μ4, f_X10_setsAsked v2 v3 μ = some μ4 ∧ fq μ μ4 ∧ ∀ c, 8 ≤ c → c ≤ 15 → μ4.1 191 (c - 8) = e (pc_word false c)) : ∃ μ1, fq μ μ1 ∧ f_X10_tells (Int32.ofNat (hd + 1)) v2 v3 high wo μ = some ((match pc_told hd e L with
    | some v => (cc hd high v).toInt32
    | none => wo), μ1) := by
  unfold f_X10_tells
  rw [show (57 : Int32) = Int32.ofNat 57 from rfl, ld_n (by decide) (by decide), Option.bind_some]
  rcases hL with ⟨h1, rfl⟩ | ⟨t, C, ht, h1, h2, h3, h4⟩
  · rw [if_pos h1]
    exact ⟨μ, fq_refl μ, rfl⟩
  · obtain ⟨μ4, s1, s2, s3⟩ := hs
    have k181 : ∀ j, μ4.1 181 j = μ.1 181 j := fun j => s2.2 181 j (by omega) (by omega)
    have n58 := h2.2
    generalize hN : nat (μ.1 181 (58 + t)) = N at h2 h3 h4 n58
    have e58 : μ.1 181 (58 + t) = Int32.ofNat N := by rw [← hN]; exact h2.1
    rw [h1, if_neg, s1, Option.bind_some, show (0 : Int32) = zb false from rfl, zb_pZ, Option.bind_some, ld_n (by decide) (by decide), Option.bind_some, wI_ne (by omega), k181, h1, show (400 : Int32) = Int32.ofNat 400 from rfl, n_mul, pI_some, Option.bind_some, ld_n (by decide) (by decide), Option.bind_some, wI_ne (by omega), wI_ne (by omega), k181, h1, show (58 : Int32) = Int32.ofNat 58 from rfl, n_add, ld_n (by omega) (by decide), Option.bind_some, wI_at, wI_ne (by omega), wI_ne (by omega), k181, e58, n_add, pI_some, Option.bind_some]
    · generalize hm : hm_wI (hm_wI (hm_wI μ4 179 25 (zb false)) 179 22 (Int32.ofNat (400 * t))) 179 23 (Int32.ofNat (400 * t + N)) = m
      have fm1 : fq μ m := by rw [← hm]; exact fq_o (fq_o (fq_o s2 ⟨by decide, by decide⟩ _) ⟨by decide, by decide⟩ _) ⟨by decide, by decide⟩ _
      have m181 : ∀ j, m.1 181 j = μ.1 181 j := fun j => fm1.2 181 j (by omega) (by omega)
      have m22 : m.1 179 22 = Int32.ofNat (400 * t + 0) := by rw [← hm, wI_ne (by omega), wI_at]; rfl
      have m23 : m.1 179 23 = Int32.ofNat (400 * t + N) := by rw [← hm, wI_at]
      have m25 : m.1 179 25 = zb false := by rw [← hm, wI_ne (by omega), wI_ne (by omega), wI_at]
      have m191 : ∀ j, m.1 191 j = μ4.1 191 j := fun j => by rw [← hm, wI_ne (by omega), wI_ne (by omega), wI_ne (by omega)]
      have hT : TKs m (400 * t) N (tkf (fun k => μ.1 181 (65 + 400 * t + k)) N) (tkf (fun k => μ.1 181 (2865 + 400 * t + k)) N) false e := by
        refine ⟨⟨by omega, by omega⟩, fun k hk => ?_, fun k hk => tkf_0 _ hk, m23, m25, fun _ c c1 c2 => by rw [m191]; exact s3 c c1 c2, fun z => by cases z⟩
        obtain ⟨⟨b1, b2⟩, b3, b4⟩ := h3 k hk
        unfold tkf
        rw [if_pos hk, if_pos hk, m181, m181]
        exact ⟨b1, b3, b2, b4⟩
      obtain ⟨L2, e1, e2⟩ := ev_text hT hh (v2 := v2) (v3 := v3) (high := high) (wo := wo) (E := fun z22_6 μz22 => some (z22_6.toInt32, μz22)) 12 0 0 [] [] C L (Nat.le_refl _) (by omega) h4
      have eL : L = L2 := e1
      subst eL
      obtain ⟨γ, e3⟩ := e2 hm_fu wo.toInt64 false (fu_lt (by decide))
      refine ⟨es m (400 * t) (N + 1) γ, fq_trans fm1 fq_es, ?_⟩
      have same : f_X10_tells_L69 (Int32.ofNat (hd + 1)) v2 v3 high wo (fun z22_6 μz22 => some (z22_6.toInt32, μz22)) hm_fu wo.toInt64 m = f_X10_tells_L69 (Int32.ofNat (hd + 1)) v2 v3 high wo (fun z22_6 μz22 => some (z22_6.toInt32, μz22)) hm_fu wo.toInt64 (es m (400 * t) 0 false) := by
        have ees : es m (400 * t) 0 false = hm_wI m 179 24 0 := by
          unfold es
          rw [← m22, wI_id]
          rfl
        obtain ⟨F, hF⟩ : ∃ F, hm_fu = F + 1 := ⟨999999, rfl⟩
        rw [hF, f_X10_tells_L69, f_X10_tells_L69, ees, wI_ne (by omega), wI_ne (by omega)]
        have ec : f_X10_codeAt (m.1 179 22) (hm_wI m 179 24 0) = f_X10_codeAt (m.1 179 22) m := by
          unfold f_X10_codeAt hm_ld
          rw [wI_ne (by omega), wI_ne (by omega)]
        have ep : hm_pZ (hm_wI m 179 24 0) 179 24 0 = hm_pZ m 179 24 0 := by
          show some (hm_wI (hm_wI m 179 24 0) 179 24 0) = some (hm_wI m 179 24 0)
          rw [wI_wI]
        rw [ec, ep]
        have hpos : 0 < N := by
          rcases Nat.eq_zero_or_pos N with z | z
          · subst z
            exfalso
            have e9 : pc_text false (tkf (fun k => μ.1 181 (65 + 400 * t + k)) 0) (tkf (fun k => μ.1 181 (2865 + 400 * t + k)) 0) 0 12 0 0 [] [] = .error 0 := rfl
            rw [e9] at h4
            cases h4
          · exact z
        rw [if_neg, if_neg]
        · rw [m22, m23, n_le (by omega) (by omega)]; omega
        · rw [m22, m23, n_le (by omega) (by omega)]; omega
      rw [same, e3]
      cases pc_told hd e L with
      | none => rw [Int32.toInt32_toInt64]
      | some v => rfl
    · rw [i_eq, n_toInt (by omega)]
      show ¬ (t : Int) = -1
      omega
theorem x10_sets2 {μ : hm_M} {a b : Nat} (ha : a < 8) (hb : b < 8) (hR : bR (μ.1 181)) : ∃ μ4, f_X10_setsAsked (Int32.ofNat a) (Int32.ofNat b) μ = some μ4 ∧ fq μ μ4 ∧ ∀ c, 8 ≤ c → c ≤ 15 → μ4.1 191 (c - 8) = en2 (μ.1 181) a b (pc_word false c) := by
  obtain ⟨⟨c1, lc1⟩, -⟩ := hR.1 a ha
  obtain ⟨⟨d1, ld1⟩, -⟩ := hR.1 b hb
  have hf : ∀ m, fq μ m → f_X10_farOf (Int32.ofNat a) (Int32.ofNat b) m = some (Int32.ofNat (far9 (nat (μ.1 181 a)) (nat (μ.1 181 b)))) := fun m f => v_far10 ha hb (by rw [f.2 _ _ (by omega) (by omega)]; exact c1) (by rw [f.2 _ _ (by omega) (by omega)]; exact d1) lc1 ld1
  have nb : ¬ Int32.ofNat b = -1 := by
    rw [i_eq, n_toInt (by omega)]
    show ¬ (b : Int) = -1
    omega
  refine ⟨_, by
    unfold f_X10_setsAsked f_X10_setsAsked_J52 f_X10_setsAsked_J73 f_X10_setsAsked_J106
    simp only [if_neg nb]
    rw [show (0 : Int32) = Int32.ofNat 0 from rfl, show (1 : Int32) = Int32.ofNat 1 from rfl, show (2 : Int32) = Int32.ofNat 2 from rfl, show (3 : Int32) = Int32.ofNat 3 from rfl, show (4 : Int32) = Int32.ofNat 4 from rfl, show (5 : Int32) = Int32.ofNat 5 from rfl, show (6 : Int32) = Int32.ofNat 6 from rfl, show (7 : Int32) = Int32.ofNat 7 from rfl, show (8 : Int32) = Int32.ofNat 8 from rfl, show (25 : Int32) = Int32.ofNat 25 from rfl, show (24 : Int32) = Int32.ofNat 24 from rfl, show (52 : Int32) = Int32.ofNat 52 from rfl]
    rw [sd_n (by decide) (by decide), Option.bind_some, sd_n (by decide) (by decide), Option.bind_some, n_add, ld_n (by omega) (by decide), Option.bind_some, sd_n (by decide) (by decide), Option.bind_some, n_add, ld_n (by omega) (by decide), Option.bind_some, sd_n (by decide) (by decide), Option.bind_some, hf _ (fq_a (fq_a (fq_a (fq_a (fq_refl μ) _ _) _ _) _ _) _ _), Option.bind_some, sd_n (by decide) (by decide), Option.bind_some, n_add, ld_n (by omega) (by decide), Option.bind_some, n_add, ld_n (by omega) (by decide), Option.bind_some, sd_n (by decide) (by decide), Option.bind_some, ld_n (by decide) (by decide), Option.bind_some, sd_n (by decide) (by decide), Option.bind_some, ld_n (by decide) (by decide), Option.bind_some, sd_n (by decide) (by decide), Option.bind_some], ?_, ?_⟩
  · exact fq_a (fq_a (fq_a (fq_a (fq_a (fq_a (fq_a (fq_a (fq_refl μ) _ _) _ _) _ _) _ _) _ _) _ _) _ _) _ _
  · intro c h1 h2
    have hc : c = 8 ∨ c = 9 ∨ c = 10 ∨ c = 11 ∨ c = 12 ∨ c = 13 ∨ c = 14 ∨ c = 15 := by omega
    rcases hc with rfl | rfl | rfl | rfl | rfl | rfl | rfl | rfl <;> simp (disch := omega) only [wI_ne, wI_eq] <;> rfl
theorem x10_sets1 {μ : hm_M} {a : Nat} (ha : a < 8) : ∃ μ4, f_X10_setsAsked (Int32.ofNat a) (-1) μ = some μ4 ∧ fq μ μ4 ∧ ∀ c, 8 ≤ c → c ≤ 15 → μ4.1 191 (c - 8) = en1 (μ.1 181) a (pc_word false c) := by
  refine ⟨_, by
    unfold f_X10_setsAsked f_X10_setsAsked_J52 f_X10_setsAsked_J73 f_X10_setsAsked_J106
    simp only [if_true]
    rw [show (0 : Int32) = Int32.ofNat 0 from rfl, show (1 : Int32) = Int32.ofNat 1 from rfl, show (2 : Int32) = Int32.ofNat 2 from rfl, show (3 : Int32) = Int32.ofNat 3 from rfl, show (4 : Int32) = Int32.ofNat 4 from rfl, show (5 : Int32) = Int32.ofNat 5 from rfl, show (6 : Int32) = Int32.ofNat 6 from rfl, show (7 : Int32) = Int32.ofNat 7 from rfl, show (8 : Int32) = Int32.ofNat 8 from rfl, show (25 : Int32) = Int32.ofNat 25 from rfl, show (24 : Int32) = Int32.ofNat 24 from rfl, show (52 : Int32) = Int32.ofNat 52 from rfl]
    rw [sd_n (by decide) (by decide), Option.bind_some, sd_n (by decide) (by decide), Option.bind_some, n_add, ld_n (by omega) (by decide), Option.bind_some, sd_n (by decide) (by decide), Option.bind_some, sd_n (by decide) (by decide), Option.bind_some, sd_n (by decide) (by decide), Option.bind_some, n_add, ld_n (by omega) (by decide), Option.bind_some, sd_n (by decide) (by decide), Option.bind_some, ld_n (by decide) (by decide), Option.bind_some, sd_n (by decide) (by decide), Option.bind_some, ld_n (by decide) (by decide), Option.bind_some, sd_n (by decide) (by decide), Option.bind_some], ?_, ?_⟩
  · exact fq_a (fq_a (fq_a (fq_a (fq_a (fq_a (fq_a (fq_a (fq_refl μ) _ _) _ _) _ _) _ _) _ _) _ _) _ _) _ _
  · intro c h1 h2
    have hc : c = 8 ∨ c = 9 ∨ c = 10 ∨ c = 11 ∨ c = 12 ∨ c = 13 ∨ c = 14 ∨ c = 15 := by omega
    rcases hc with rfl | rfl | rfl | rfl | rfl | rfl | rfl | rfl <;> simp (disch := omega) only [wI_ne, wI_eq] <;> first | rfl | exact Int32.add_zero _
end
