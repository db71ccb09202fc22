section
/-! All orders on both sides. -/
variable {μ0 m0 : hm_M} {ρ0 : Nat → Int32} {C : pc_C} {L Lw : List pc_K} {law : Option Nat} {N : Nat} {tk vl : Nat → Nat}
def FAIL9 (q : Nat) (μ : hm_M) : Option (Int32 × hm_M) := Option.bind (f_X2_takeBack 65 87 μ) fun μ14 => Option.bind (hm_pI μ14 64 14 (Int32.ofNat q)) fun μ15 => hm_b2 (f_X9_refused (-3 : Int32) μ15) fun x16 μ17 => some (x16, μ17)
def FAIL10 (w1 : Int32) (q : Nat) (m : hm_M) : Option (Int32 × hm_M) := Option.bind (f_X10_takesBack (1 : Int32) m) fun μ19 => Option.bind (hm_pI (cpm μ19 194 0 193 0 416) 179 33 w1) fun μ23 => Option.bind (hm_pI μ23 179 46 (Int32.ofNat q)) fun μ24 => hm_b2 (f_X10_refuses (-3 : Int32) μ24) fun x25 μ26 => some (x25, μ26)
theorem L19_s (v1 w2 w3 : Int32) (e73 : hm_M → Option (Int32 × hm_M)) (F y n : Nat) (m : hm_M) (hw : w2 = Int32.ofNat n) (hn : n < 1000) (hy : y < n) : f_X10_runs_L19 v1 w2 w3 e73 (F + 1) (Int32.ofNat y) m = IT v1 m fun μ => f_X10_runs_L19 v1 w2 w3 e73 F (Int32.ofNat (y + 1)) μ := by
  rw [f_X10_runs_L19, if_neg (by rw [hw, n_le (by omega) (by omega)]; omega)]
  unfold IT f_X10_runs_J67
  rw [show Int32.ofNat y + 1 = Int32.ofNat (y + 1) from n_add y 1]
theorem ls_times {q i l j l1 n : Nat} {K : pc_K} {C' C1' : pc_C} (hB : BASE μ0 C L Lw law) (hF : FL ρ0 Lw) (hT : TT ρ0 N tk vl) (hK : L[q]? = some K) (hp : pc_ord1 tk vl i l C' = .ok (j, l1, C1', K)) (hC : C'.length ≤ i) (hi : i ≤ N) (hn : n < 1000) : ∀ (r y : Nat) (μ m : hm_M) (ρ : Nat → Int32) (D : Nat) (la : Int32) (s : Nat) (E : Nat → ent), y + r = n → LSt μ0 m0 ρ0 μ m ρ D la s E → m.1 179 47 = Int32.ofNat (2400 + i) → ∃ μ1 m1, fC μ0 μ1 ∧ fR m0 m1 ∧ m1.1 179 47 = Int32.ofNat (2400 + i) ∧ (((∀ c67 e152 e146 F, r < F → f_X9_orders_L86 (Int32.ofNat q) (Int32.ofNat n) c67 e152 e146 F (Int32.ofNat y) μ = FAIL9 q μ1) ∧ ∀ w3 e73 F, r < F → f_X10_runs_L19 (Int32.ofNat (2400 + N)) (Int32.ofNat n) w3 e73 F (Int32.ofNat y) m = some (0, m1)) ∨ ∃ ρ' D' la' s' E', (∀ c67 e152 e146 F, r < F → f_X9_orders_L86 (Int32.ofNat q) (Int32.ofNat n) c67 e152 e146 F (Int32.ofNat y) μ = e146 μ1) ∧ (∀ w3 e73 F, r < F → f_X10_runs_L19 (Int32.ofNat (2400 + N)) (Int32.ofNat n) w3 e73 F (Int32.ofNat y) m = e73 m1) ∧ LSt μ0 m0 ρ0 μ1 m1 ρ' D' la' s' E') := by
  intro r
  induction r with
  | zero =>
    intro y μ m ρ D la s E hy hS h47
    refine ⟨μ, m, hS.1.2.2.2.2, hS.2.1.2.2.2.2, h47, Or.inr ⟨ρ, D, la, s, E, fun c67 e152 e146 F hF => ?_, fun w3 e73 F hF => ?_, hS⟩⟩
    · obtain ⟨F, rfl⟩ : ∃ M, F = M + 1 := ⟨F - 1, by omega⟩
      rw [f_X9_orders_L86, if_pos (by rw [n_le (by omega) (by omega)]; omega)]
    · obtain ⟨F, rfl⟩ : ∃ M, F = M + 1 := ⟨F - 1, by omega⟩
      rw [f_X10_runs_L19, if_pos (by rw [n_le (by omega) (by omega)]; omega)]
  | succ r ih =>
    intro y μ m ρ D la s E hy hS h47
    obtain ⟨μ1, m1, h1, h2, h3, ⟨h4, h5⟩ | ⟨ρ', D', la', s', E', h4, h5, h6⟩⟩ := ls_one hB hF hT hS hK hp hC hi h47
    · refine ⟨μ1, m1, h1, h2, h3.trans h47, Or.inl ⟨fun c67 e152 e146 F hF => ?_, fun w3 e73 F hF => ?_⟩⟩
      · obtain ⟨F, rfl⟩ : ∃ M, F = M + 1 := ⟨F - 1, by omega⟩
        rw [f_X9_orders_L86, if_neg (by rw [n_le (by omega) (by omega)]; omega), h4, b2_some, if_pos rfl]
        rfl
      · obtain ⟨F, rfl⟩ : ∃ M, F = M + 1 := ⟨F - 1, by omega⟩
        rw [L19_s _ _ _ _ _ _ _ _ rfl hn (by omega), h5]
    · obtain ⟨μ2, m2, g1, g2, g3, g4⟩ := ih (y + 1) μ1 m1 ρ' D' la' s' E' (by omega) h6 (h3.trans h47)
      refine ⟨μ2, m2, g1, g2, g3, ?_⟩
      have st9 : ∀ c67 e152 e146 F, f_X9_orders_L86 (Int32.ofNat q) (Int32.ofNat n) c67 e152 e146 (F + 1) (Int32.ofNat y) μ = f_X9_orders_L86 (Int32.ofNat q) (Int32.ofNat n) c67 e152 e146 F (Int32.ofNat (y + 1)) μ1 := fun c67 e152 e146 F => by
        rw [f_X9_orders_L86, if_neg (by rw [n_le (by omega) (by omega)]; omega), h4, b2_some, if_neg (by decide), show Int32.ofNat y + 1 = Int32.ofNat (y + 1) from n_add y 1]
      have st10 : ∀ w3 e73 F, f_X10_runs_L19 (Int32.ofNat (2400 + N)) (Int32.ofNat n) w3 e73 (F + 1) (Int32.ofNat y) m = f_X10_runs_L19 (Int32.ofNat (2400 + N)) (Int32.ofNat n) w3 e73 F (Int32.ofNat (y + 1)) m1 := fun w3 e73 F => by
        rw [L19_s _ _ _ _ _ _ _ _ rfl hn (by omega), h5]
      rcases g4 with ⟨k1, k2⟩ | ⟨ρ2, D2, la2, s2, E2, k1, k2, k3⟩
      · refine Or.inl ⟨fun c67 e152 e146 F hF => ?_, fun w3 e73 F hF => ?_⟩
        · obtain ⟨F, rfl⟩ : ∃ M, F = M + 1 := ⟨F - 1, by omega⟩
          rw [st9]; exact k1 _ _ _ _ (by omega)
        · obtain ⟨F, rfl⟩ : ∃ M, F = M + 1 := ⟨F - 1, by omega⟩
          rw [st10]; exact k2 _ _ _ (by omega)
      · refine Or.inr ⟨ρ2, D2, la2, s2, E2, fun c67 e152 e146 F hF => ?_, fun w3 e73 F hF => ?_, k3⟩
        · obtain ⟨F, rfl⟩ : ∃ M, F = M + 1 := ⟨F - 1, by omega⟩
          rw [st9]; exact k1 _ _ _ _ (by omega)
        · obtain ⟨F, rfl⟩ : ∃ M, F = M + 1 := ⟨F - 1, by omega⟩
          rw [st10]; exact k2 _ _ _ (by omega)
theorem L122_v (w1 w2 w3 : Int32) (c95 : Int32 → hm_M → Option (Int32 × hm_M)) (e173 e150 : hm_M → Option (Int32 × hm_M)) (m : hm_M) : f_X10_orders_L122 w1 w2 w3 c95 e173 e150 hm_fu 0 m = e150 (cpm m 194 0 193 0 416) := by
  refine cpy_loop (e := e150) (A := 194) (s := 0) (B := 193) (d := 0) (N := 416) (Or.inl (by decide)) (fun n k μ1 hk => ?_) (fun n μ1 => ?_) (fu_lt (by omega)) m
  · rw [f_X10_orders_L122, if_neg (by rw [show (416 : Int32) = Int32.ofNat 416 from rfl, n_le (by omega) (by omega)]; omega), ld_n (by omega) (by decide), Option.bind_some, sd_n (by omega) (by decide), Option.bind_some, show Int32.ofNat k + 1 = Int32.ofNat (k + 1) from n_add k 1, Nat.zero_add]
  · rw [f_X10_orders_L122, if_pos (by decide)]
theorem ls_text (hB : BASE μ0 C L Lw law) (hF : FL ρ0 Lw) (hT : TT ρ0 N tk vl) : ∀ (mq i l : Nat) (C' : pc_C) (A : List pc_K) (μ m : hm_M) (ρ : Nat → Int32) (D : Nat) (la : Int32) (s : Nat) (E : Nat → ent), C'.length ≤ i → l ≤ 50 → pc_text true tk vl N mq i l C' A = .ok (C, L) → LSt μ0 m0 ρ0 μ m ρ D la s E → m.1 179 47 = Int32.ofNat (2400 + i) → ∃ μ1 m1, fC μ0 μ1 ∧ fR m0 m1 ∧ ((∃ q, (∀ e152 F, mq < F → f_X9_orders_L67 e152 F (Int32.ofNat A.length) μ = FAIL9 q μ1) ∧ ∀ w1 e173 F, mq < F → f_X10_orders_L95 w1 (Int32.ofNat (2400 + N)) e173 F (Int32.ofNat A.length) m = FAIL10 w1 q m1) ∨ ∃ ρ' D' la' s' E', (∀ e152 F, mq < F → f_X9_orders_L67 e152 F (Int32.ofNat A.length) μ = e152 μ1) ∧ (∀ w1 e173 F, mq < F → f_X10_orders_L95 w1 (Int32.ofNat (2400 + N)) e173 F (Int32.ofNat A.length) m = e173 m1) ∧ LSt μ0 m0 ρ0 μ1 m1 ρ' D' la' s' E')
  | 0, i, l, C', A, μ, m, ρ, D, la, s, E, hC, hl, hp, hS, h47 => by
    unfold pc_text at hp
    cases hp
  | mq + 1, i, l, C', A, μ, m, ρ, D, la, s, E, hC, hl, hp, hS, h47 => by
    have hN := hT.2.1
    unfold pc_text at hp
    generalize h1 : pc_one true tk vl i l C' = r at hp
    match r, h1, hp with
    | .error e, h1, hp => cases hp
    | .ok (j, l1, C1, K), h1, hp =>
      have hp : (if tk j = 159 then pc_text true tk vl N mq (j + 1) l1 C1 (A ++ [K]) else if j < N then .error j else .ok (C1, A ++ [K])) = .ok (C, L) := hp
      have ho : pc_ord1 tk vl i l C' = .ok (j, l1, C1, K) := h1
      obtain ⟨⟨⟨o1, o2, o3, o4, o5, o6⟩, o7, o8⟩, -⟩ := ord1_ok hT.2.2.2 hN hC hl ho
      -- which clause it is
      have hAL : L.length ≤ 12 ∧ L[A.length]? = some K ∧ (tk j = 159 → A.length + 1 < L.length + 1) := by
        refine ⟨hB.1.1.2, ?_, ?_⟩
        · by_cases y : tk j = 159
          · rw [if_pos y] at hp
            obtain ⟨-, -, L2, e, -⟩ := text_ok hT.2.2.2 hN _ _ _ _ _ _ _ (by omega) (by omega) hp
            rw [e, List.append_assoc, List.getElem?_append_right (Nat.le_refl _), Nat.sub_self]
            rfl
          · rw [if_neg y] at hp
            split at hp
            · cases hp
            · cases hp
              rw [List.getElem?_append_right (Nat.le_refl _), Nat.sub_self]
              rfl
        · intro y
          rw [if_pos y] at hp
          obtain ⟨-, -, L2, e, -⟩ := text_ok hT.2.2.2 hN _ _ _ _ _ _ _ (by omega) (by omega) hp
          have := congrArg List.length e
          rw [List.length_append, List.length_append] at this
          simp only [List.length_cons, List.length_nil] at this
          omega
      obtain ⟨hl12, hK, -⟩ := hAL
      have hAl : A.length < L.length := (List.getElem?_eq_some_iff.mp hK).1
      have hcl := (hB.2.1 K (List.mem_of_getElem? hK)).1.2.2.2.2.1
      obtain ⟨⟨a1, a2, a3, a4, a5⟩, ⟨b1, b2, b3, b4, b5⟩, hD, hk, hE⟩ := id hS
      have hFρ : FL ρ Lw := FL_cong hF fun k z => hk k (by omega)
      have hTρ : TT ρ N tk vl := ⟨hD, hT.2.1, fun k z => by rw [hk _ (by omega), hk _ (by omega)]; exact hT.2.2.1 k z, hT.2.2.2⟩
      -- the reference looks how often
      obtain ⟨m3, g1, g2, g3, g4, -, -⟩ := v_goes false hTρ b1 b3 b4 h47 hFρ hC (by omega) ho
      have S3 : LSt μ0 m0 ρ0 μ m3 ρ D la s E := by
        refine ⟨⟨a1, a2, a3, a4, a5⟩, ⟨?_, SR10_g b2 (g2.2 _ _ (by omega) (by omega)) (fun j => g2.2 _ _ (by omega) (by omega)), ?_, ?_, fR_trans b5 (fo_fR g2)⟩, hD, hk, hE⟩
        · rw [← b1]; exact funext fun j => g2.2 _ _ (by omega) (by omega)
        · rw [g2.2 _ _ (by omega) (by omega)]; exact b3
        · rw [g2.2 _ _ (by omega) (by omega)]; exact b4
      obtain ⟨μ1, m1, c1, c2, c3, c4⟩ := ls_times hB hF hT hK ho hC (by omega) (n := K.1.2.2.2.2.2) (by omega) K.1.2.2.2.2.2 0 μ m3 ρ D la s E (by omega) S3 (by rw [g2.2 _ _ (by omega) (by omega)]; exact h47)
      have hBμ := hB.fC a5
      have st9 : ∀ e152 F, f_X9_orders_L67 e152 (F + 1) (Int32.ofNat A.length) μ = f_X9_orders_L86 (Int32.ofNat A.length) (Int32.ofNat K.1.2.2.2.2.2) (f_X9_orders_L67 e152 F) e152 (fun μz18 => f_X9_orders_L67 e152 F (Int32.ofNat (A.length + 1)) μz18) hm_fu (Int32.ofNat 0) μ := fun e152 F => by
        rw [f_X9_orders_L67, hBμ.1.2.1.2, if_neg (by rw [n_le (by omega) (by omega)]; omega), show (5 : Int32) = Int32.ofNat 5 from rfl, x5_part hBμ.1 hAl (by omega), Option.bind_some, (hBμ.1.2.2.2.2.2.2 A.length K hK).2.2.2.2.2, show Int32.ofNat A.length + 1 = Int32.ofNat (A.length + 1) from n_add _ 1]
        rfl
      have st10 : ∀ w1 e173 F, f_X10_orders_L95 w1 (Int32.ofNat (2400 + N)) e173 (F + 1) (Int32.ofNat A.length) m = hm_b2 (f_X10_runs_L19 (Int32.ofNat (2400 + N)) (Int32.ofNat K.1.2.2.2.2.2) (Int32.ofNat (2400 + (j + 1))) (fun μz9 => Option.bind (hm_pI μz9 179 47 (Int32.ofNat (2400 + (j + 1)))) fun μ10 => some ((1 : Int32), μ10)) hm_fu (Int32.ofNat 0) m3) fun x16 μ17 => (if x16 = 0 then FAIL10 w1 A.length μ17 else f_X10_orders_L95 w1 (Int32.ofNat (2400 + N)) e173 F (Int32.ofNat (A.length + 1)) μ17) := fun w1 e173 F => by
        rw [f_X10_orders_L95, h47, if_neg (by rw [n_le (by omega) (by omega)]; omega)]
        unfold f_X10_runs
        rw [show f_X10_goesAlong (Int32.ofNat (2400 + N)) 0 m = some m3 from g1, Option.bind_some, g3, g4, show Int32.ofNat A.length + 1 = Int32.ofNat (A.length + 1) from n_add _ 1]
        simp only [L122_v]
        rfl
      have hfu : K.1.2.2.2.2.2 < hm_fu := fu_lt (by omega)
      rcases c4 with ⟨k1, k2⟩ | ⟨ρ2, D2, la2, s2, E2, k1, k2, k3⟩
      · refine ⟨μ1, m1, c1, c2, Or.inl ⟨A.length, fun e152 F hF => ?_, fun w1 e173 F hF => ?_⟩⟩
        · obtain ⟨F, rfl⟩ : ∃ M, F = M + 1 := ⟨F - 1, by omega⟩
          rw [st9]; exact k1 _ _ _ _ hfu
        · obtain ⟨F, rfl⟩ : ∃ M, F = M + 1 := ⟨F - 1, by omega⟩
          rw [st10, k2 _ _ _ hfu, b2_some, if_pos rfl]
      · have S4 : LSt μ0 m0 ρ0 μ1 (hm_wI m1 179 47 (Int32.ofNat (2400 + (j + 1)))) ρ2 D2 la2 s2 E2 := by
          obtain ⟨w1, ⟨v1, v2, v3, v4, v5⟩, w3⟩ := k3
          refine ⟨w1, ⟨?_, SR10_g v2 (wI_ne (by omega)) (fun j => wI_ne (by omega)), ?_, ?_, fR_w v5 (by omega) _⟩, w3⟩
          · rw [← v1]; exact funext fun j => wI_ne (by omega)
          · rw [wI_ne (by omega)]; exact v3
          · rw [wI_ne (by omega)]; exact v4
        have nx10 : ∀ w1 e173 F, f_X10_orders_L95 w1 (Int32.ofNat (2400 + N)) e173 (F + 1) (Int32.ofNat A.length) m = f_X10_orders_L95 w1 (Int32.ofNat (2400 + N)) e173 F (Int32.ofNat (A.length + 1)) (hm_wI m1 179 47 (Int32.ofNat (2400 + (j + 1)))) := fun w1 e173 F => by
          rw [st10, k2 _ _ _ hfu, pI_some, Option.bind_some, b2_some, if_neg (by decide)]
        have nx9 : ∀ e152 F, f_X9_orders_L67 e152 (F + 1) (Int32.ofNat A.length) μ = f_X9_orders_L67 e152 F (Int32.ofNat (A.length + 1)) μ1 := fun e152 F => by
          rw [st9, k1 _ _ _ _ hfu]
        by_cases y : tk j = 159
        · rw [if_pos y] at hp
          have ih := ls_text hB hF hT mq (j + 1) l1 C1 (A ++ [K]) μ1 (hm_wI m1 179 47 (Int32.ofNat (2400 + (j + 1)))) ρ2 D2 la2 s2 E2 (by omega) (by omega) hp S4 (wI_at _ _ _ _)
          rw [show (A ++ [K]).length = A.length + 1 by rw [List.length_append]; rfl] at ih
          obtain ⟨μ5, m5, f1, f2, f3⟩ := ih
          refine ⟨μ5, m5, f1, f2, ?_⟩
          rcases f3 with ⟨q, f4, f5⟩ | ⟨ρ5, D5, la5, s5, E5, f4, f5, f6⟩
          · refine Or.inl ⟨q, fun e152 F hF => ?_, fun w1 e173 F hF => ?_⟩
            · obtain ⟨F, rfl⟩ : ∃ M, F = M + 1 := ⟨F - 1, by omega⟩
              rw [nx9]; exact f4 _ _ (by omega)
            · obtain ⟨F, rfl⟩ : ∃ M, F = M + 1 := ⟨F - 1, by omega⟩
              rw [nx10]; exact f5 _ _ _ (by omega)
          · refine Or.inr ⟨ρ5, D5, la5, s5, E5, fun e152 F hF => ?_, fun w1 e173 F hF => ?_, f6⟩
            · obtain ⟨F, rfl⟩ : ∃ M, F = M + 1 := ⟨F - 1, by omega⟩
              rw [nx9]; exact f4 _ _ (by omega)
            · obtain ⟨F, rfl⟩ : ∃ M, F = M + 1 := ⟨F - 1, by omega⟩
              rw [nx10]; exact f5 _ _ _ (by omega)
        · rw [if_neg y] at hp
          by_cases y2 : j < N
          · rw [if_pos y2] at hp; cases hp
          · rw [if_neg y2] at hp
            have hLl : L.length = A.length + 1 := by
              cases hp
              rw [List.length_append]; rfl
            have c1' := hB.fC c1
            refine ⟨μ1, _, c1, S4.2.1.2.2.2.2, Or.inr ⟨ρ2, D2, la2, s2, E2, fun e152 F hF => ?_, fun w1 e173 F hF => ?_, S4⟩⟩
            · obtain ⟨F, rfl⟩ : ∃ M, F = M + 1 + 1 := ⟨F - 2, by omega⟩
              rw [nx9, f_X9_orders_L67, c1'.1.2.1.2, if_pos (by rw [hLl, n_le (by omega) (by omega)]; omega)]
            · obtain ⟨F, rfl⟩ : ∃ M, F = M + 1 + 1 := ⟨F - 2, by omega⟩
              rw [nx10, f_X10_orders_L95, wI_at, if_pos (by rw [n_le (by omega) (by omega)]; omega)]
end
