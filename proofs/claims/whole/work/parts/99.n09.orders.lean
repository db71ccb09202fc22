section
/-! Orders. -/
theorem SR9_g2 {μ m : hm_M} {s : Nat} {E : Nat → ent} (h : SR9 μ 87 s E) (f1 : m.1 87 1 = μ.1 87 1) (f2 : m.1 87 2 = μ.1 87 2) (f : ∀ k j, k < 17 → j < 26 → m.1 (87 + 2 + k) j = μ.1 (87 + 2 + k) j) : SR9 m 87 s E := by
  obtain ⟨q, a1, a2, a3, a4, a5⟩ := h
  refine ⟨q, a1, a2, f1.trans a3, f2.trans a4, fun i hi => ?_⟩
  have hm : (q + i) % 17 < 17 := Nat.mod_lt _ (by decide)
  obtain ⟨b1, b2, b3⟩ := a5 i hi
  refine ⟨by rw [f _ _ hm (by omega)]; exact b1, by rw [f _ _ hm (by omega)]; exact b2, fun j hj => ?_⟩
  rw [f _ _ hm (by omega), f _ _ hm (by omega), f _ _ hm (by omega)]
  exact b3 j hj
theorem SR10_g2 {m m1 : hm_M} {s : Nat} {E : Nat → ent} (h : SR10 m s E) (f1 : m1.1 179 33 = m.1 179 33) (f2 : ∀ j, j < 416 → m1.1 193 j = m.1 193 j) : SR10 m1 s E := by
  obtain ⟨a1, a2, a3⟩ := h
  refine ⟨a1, f1.trans a2, fun i hi => ⟨fun k hk => by rw [f2 _ (by omega)]; exact (a3 i hi).1 k hk, by rw [f2 _ (by omega)]; exact (a3 i hi).2⟩⟩
/-- what orders leave as it was -/
theorem ord_PP {μ M : hm_M} (h : PP μ) (F1 : ∀ a j, ¬ (179 ≤ a ∧ a ≤ 204) → ¬ (a = 64 ∧ (j = 12 ∨ j = 13 ∨ j = 14 ∨ j = 16)) → ¬ (65 ≤ a ∧ a ≤ 74) → ¬ (87 ≤ a ∧ a ≤ 154) → a ≠ 157 → M.1 a j = μ.1 a j) (F2 : ∀ a j, 179 ≤ a → a ≤ 204 → a ≠ 180 → a ≠ 181 → a ≠ 184 → ¬ (188 ≤ a ∧ a ≤ 194) → ¬ (a = 179 ∧ (j = 0 ∨ (8 ≤ j ∧ j ≤ 10) ∨ j = 13 ∨ j = 14 ∨ (18 ≤ j ∧ j ≤ 25) ∨ (27 ≤ j ∧ j ≤ 29) ∨ j = 33 ∨ (46 ≤ j ∧ j ≤ 51))) → M.1 a j = μ.1 a j) (eL : hm_ln M = hm_ln μ) (rf : ∀ a t, a = 165 ∨ a = 175 → M.2.2.1 a t = μ.2.2.1 a t) (e1 : M.1 64 12 = 0) (e2 : M.1 179 13 = 0) : PI M ∧ PD M ∧ PT M ∧ PC M := by
  obtain ⟨a1, a2, a3, a4, a5, a6, a7⟩ := h
  refine ⟨fun i hi => ?_, a3.same (fun a j z => ?_), ⟨by rw [e1]; exact bd_n (n := 0) (by omega) (by omega), by rw [e1, e2], fun i hi => ?_⟩, a7.same (fun j => F2 _ _ (by omega) (by omega) (by omega) (by omega) (by omega) (by omega) (by omega))⟩
  · have e : ∀ j, M.1 182 j = μ.1 182 j := fun j => F2 _ _ (by omega) (by omega) (by omega) (by omega) (by omega) (by omega) (by omega)
    rw [F1 76 i (by omega) (by omega) (by omega) (by omega) (by omega), F2 183 i (by omega) (by omega) (by omega) (by omega) (by omega) (by omega) (by omega)]
    refine ⟨(a2 i hi).1, (a2 i hi).2.imp id fun z => ⟨z.1, ?_⟩⟩
    simp only [e]
    exact z.2.keep eL (fun t _ => rf _ _ (by omega)) (fun a j z => F1 _ _ (by omega) (by omega) (by omega) (by omega) (by omega))
  · unfold dD at z
    by_cases y : 179 ≤ a ∧ a ≤ 204
    · exact F2 a j y.1 y.2 (by omega) (by omega) (by omega) (by omega) (by omega)
    · exact F1 a j y (by omega) (by omega) (by omega) (by omega)
  · rw [F1 _ _ (by omega) (by omega) (by omega) (by omega) (by omega), F2 _ _ (by omega) (by omega) (by omega) (by omega) (by omega) (by omega) (by omega)]
    exact a5.2.2 i hi
theorem rk3 : rk (-3) := Or.inr (Or.inr (Or.inl rfl))
theorem lay1 (m : hm_M) : f_X10_laysAside (1 : Int32) m = some (cpm m 181 0 184 25 25) := by
  refine cpy_loop (L := f_X10_laysAside_L2 1 (fun m => some m)) (e := fun m => some m) (A := 181) (s := 0) (B := 184) (d := 25) (N := 25) (Or.inl (by decide)) (fun n k μ1 hk => ?_) (fun n μ1 => ?_) (fu_lt (by omega)) m
  · rw [f_X10_laysAside_L2, if_neg (by rw [show (25 : Int32) = Int32.ofNat 25 from rfl, n_le (by omega) (by omega)]; omega), ld_n (by omega) (by decide), Option.bind_some, show (25 : Int32) = Int32.ofNat 25 from rfl, show (1 : Int32) = Int32.ofNat 1 from rfl, n_mul, n_add, sd_n (by omega) (by decide), Option.bind_some, n_add, Nat.zero_add]
  · rw [f_X10_laysAside_L2, if_pos (by decide)]
theorem bak1 (m : hm_M) : f_X10_takesBack (1 : Int32) m = some (cpm m 184 25 181 0 25) := by
  refine cpy_loop (L := f_X10_takesBack_L2 1 (fun m => some m)) (e := fun m => some m) (A := 184) (s := 25) (B := 181) (d := 0) (N := 25) (Or.inl (by decide)) (fun n k μ1 hk => ?_) (fun n μ1 => ?_) (fu_lt (by omega)) m
  · rw [f_X10_takesBack_L2, if_neg (by rw [show (25 : Int32) = Int32.ofNat 25 from rfl, n_le (by omega) (by omega)]; omega), show (25 : Int32) = Int32.ofNat 25 from rfl, show (1 : Int32) = Int32.ofNat 1 from rfl, n_mul, n_add, ld_n (by omega) (by decide), Option.bind_some, sd_n (by omega) (by decide), Option.bind_some, n_add, Nat.zero_add]
  · rw [f_X10_takesBack_L2, if_pos (by decide)]
theorem L27_v (e52 : hm_M → Option (Int32 × hm_M)) (m : hm_M) : f_X10_orders_L27 e52 hm_fu 0 m = e52 (cpm m 193 0 194 0 416) := by
  refine cpy_loop (e := e52) (A := 193) (s := 0) (B := 194) (d := 0) (N := 416) (Or.inl (by decide)) (fun n k μ1 hk => ?_) (fun n μ1 => ?_) (fu_lt (by omega)) m
  · rw [f_X10_orders_L27, if_neg (by rw [show (416 : Int32) = Int32.ofNat 416 from rfl, n_le (by omega) (by omega)]; omega), ld_n (by omega) (by decide), Option.bind_some, sd_n (by omega) (by decide), Option.bind_some, show Int32.ofNat k + 1 = Int32.ofNat (k + 1) from n_add k 1, Nat.zero_add]
  · rw [f_X10_orders_L27, if_pos (by decide)]
theorem ord_both {ν : hm_N} {μ m : hm_M} (hL : hm_LL ν μ) (h : PP μ) (hm : ∀ a j, 179 ≤ a → a ≤ 204 → m.1 a j = μ.1 a j) : ∃ r μ1 m1, f_X9_orders μ = some (r, μ1) ∧ f_X10_orders m = some (r, m1) ∧ (∀ a j, 179 ≤ a → a ≤ 204 → μ1.1 a j = μ.1 a j) ∧ (∀ a j, ¬ (179 ≤ a ∧ a ≤ 204) → m1.1 a j = m.1 a j) ∧ m1.2.2 = m.2.2 ∧ PP (mix μ1 m1) := by
  obtain ⟨a1, a2, a3, a4, ⟨t1, t2, t3⟩, a6, a7⟩ := id h
  obtain ⟨n, en, ln⟩ : ∃ n, μ.1 64 12 = Int32.ofNat n ∧ n ≤ 400 := ⟨_, t1.1, by have := t1.2; omega⟩
  have h13 : μ.1 179 13 = Int32.ofNat n := t2.symm.trans en
  let T : Nat → Nat := fun i => nat (μ.1 156 i)
  have hT : ∀ i, i < n → T i < 256 ∧ μ.1 156 i = Int32.ofNat (T i) := fun i hi => ⟨(t3 i (by omega)).1.2, (t3 i (by omega)).1.1⟩
  have hmy := (tmy_p T n).2.2
  -- the component reads
  obtain ⟨x, mr, s1, s2, s3⟩ := v_readText (T := T) (n := n) (μ := hm_wI (hm_wI μ 64 12 0) 64 14 (-1)) true ln (fun i hi => ⟨(hT i hi).1, by rw [wI_ne (by omega), wI_ne (by omega)]; exact (hT i hi).2⟩) (la_a hL (by decide) (a := 152) rfl).2.2.2 (la_a hL (by decide) (a := 153) rfl).2.2.2 (la_a hL (by decide) (a := 154) rfl).2.2.2
  have k1 : ∀ a j, ¬ (a = 64 ∧ (j = 12 ∨ j = 14)) → ¬ (150 ≤ a ∧ a ≤ 154) → mr.1 a j = μ.1 a j := fun a j z z1 => by rw [s2.2 a j (by omega) (by omega) (by omega) (by omega) (by omega), wI_ne (by omega), wI_ne (by omega)]
  have k14 : mr.1 64 14 = -1 := by rw [s2.2 _ _ (by omega) (by omega) (by omega) (by omega) (by omega), wI_at]
  have k12 : mr.1 64 12 = 0 := by rw [s2.2 _ _ (by omega) (by omega) (by omega) (by omega) (by omega), wI_ne (by omega), wI_at]
  have rL : hm_ln mr = hm_ln μ := by
    show mr.2.2.2.2.2 = _
    rw [s2.1]
    rfl
  have rR : ∀ a t, a ≠ 150 → mr.2.2.1 a t = μ.2.2.1 a t := fun a t z => by
    rw [s2.1]
    exact wR_n (by omega)
  -- the reference reads
  have m2 : ∀ a j, 179 ≤ a → a ≤ 204 → ¬ (a = 179 ∧ j = 46) → (hm_wI m 179 46 (-1)).1 a j = μ.1 a j := fun a j z1 z2 z3 => by rw [wI_ne z3]; exact hm a j z1 z2
  obtain ⟨x', m4, r1, r2, r3, r4, r5, r6⟩ := v_readsAs (μ := hm_wI m 179 46 (-1)) (T := T) (n := n) true ⟨ln, fun i hi => ⟨(hT i hi).1, by rw [m2 _ _ (by omega) (by omega) (by omega)]; exact (t3 i (by omega)).2⟩⟩ (a7.same fun j => m2 _ _ (by omega) (by omega) (by omega)) (by rw [m2 _ _ (by omega) (by omega) (by omega)]; exact h13)
  have k2 : ∀ a j, 179 ≤ a → a ≤ 204 → ¬ (a = 179 ∧ ((8 ≤ j ∧ j ≤ 10) ∨ j = 13 ∨ j = 14 ∨ (18 ≤ j ∧ j ≤ 21) ∨ j = 46)) → ¬ (188 ≤ a ∧ a ≤ 190) → m4.1 a j = μ.1 a j := fun a j z1 z2 z3 z4 => by rw [r2.2 a j (by omega) (by omega) (by omega) (by omega)]; exact m2 a j z1 z2 (by omega)
  have k3 : ∀ a j, ¬ (179 ≤ a ∧ a ≤ 204) → m4.1 a j = m.1 a j := fun a j z => by rw [r2.2 a j (by omega) (by omega) (by omega) (by omega), wI_ne (by omega)]
  have k46 : m4.1 179 46 = -1 := by rw [r2.2 _ _ (by omega) (by omega) (by omega) (by omega), wI_at]
  have k4r : m4.2 = m.2 := r2.1
  unfold f_X9_orders f_X9_emptiedTape f_X10_orders
  rw [pI_some, Option.bind_some, b2_some, pI_some, Option.bind_some, en, show f_X6_readText (Int32.ofNat n) 0 (hm_wI (hm_wI μ 64 12 0) 64 14 (-1)) = _ from s1, b2_some, pI_some, Option.bind_some, wI_at, pI_some, Option.bind_some, show f_X10_readsAs 1 (hm_wI m 179 46 (-1)) = _ from r1, b2_some]
  generalize hr : pc_text true (tkc T n) (vlc T n) (tmy T n) 12 0 0 [] [] = r at s3 r6
  match r, hr, s3, r6 with
  | .error e, hr, s3, r6 =>
    obtain ⟨rfl, he⟩ := s3
    obtain ⟨rfl, r7, -⟩ := r6
    have hs := tst_le T n e
    rw [if_neg (show ¬ Int32.ofNat (tst T n e) = -1 by rw [i_eq, n_toInt (by omega)]; show ¬ ((tst T n e : Nat) : Int) = -1; omega), v_rf9 rk6, b2_some, if_pos rfl, v_rf10 rk6, b2_some]
    refine ⟨_, _, _, rfl, rfl, fun a j z1 z2 => ?_, fun a j z => ?_, ?_, rf10_mix (text_no rk6 (stop_PP (-1) h) (fun a j z1 z2 z3 z4 z5 => ?_) ?_ (fun a j z => ?_) ?_ ?_ ?_ ?_ fun j => ?_)⟩
    · rw [rf9_ne (by omega), wI_ne (by omega)]; exact k1 a j (by omega) (by omega)
    · unfold rf10
      rw [wI_ne (by omega), wI_ne (by omega)]; exact k3 a j z
    · show m4.2.2 = _
      rw [k4r]
    · by_cases y : 179 ≤ a ∧ a ≤ 204
      · rw [mix_b y.1 y.2]
        by_cases y2 : a = 179 ∧ j = 46
        · rw [y2.1, y2.2, k46, wI_at]
        · rw [wI_ne y2, wI_ne (by omega)]; exact k2 a j y.1 y.2 (by omega) (by omega)
      · rw [mix_a y, rf9_ne (by omega), wI_ne (by omega)]
        by_cases y2 : a = 64 ∧ j = 14
        · rw [y2.1, y2.2, k14, wI_ne (by omega), wI_at]
        · rw [wI_ne (by omega), wI_ne y2]; exact k1 a j (by omega) (by omega)
    · exact rL
    · exact rR a j z
    · rw [mix_a (by omega), rf9_ne (by omega), wI_ne (by omega), k12]
    · rw [mix_b (by omega) (by omega), r5]
    · rw [mix_a (by omega), mix_b (by omega) (by omega), rf9_ne (by omega), wI_at, r7]
    · rw [mix_a (by omega), rf9_16]
    · rw [mix_a (by omega)]
      exact rf9_157 (fun j => by rw [wI_ne (by omega), k1 _ _ (by omega) (by omega), wI_ne (by omega), wI_ne (by omega)]) j
  | .ok (C, L), hr, s3, r6 =>
    obtain ⟨rfl, ⟨hC, hLn⟩, ⟨c3, c4, c5⟩, cl⟩ := s3
    obtain ⟨rfl, r7⟩ := r6
    rw [if_pos rfl, if_neg (show ¬ (1 : Int32) = 0 by decide), lay1, Option.bind_some, L27_v]
    -- the component begins
    obtain ⟨mc, d1, ⟨d2, d3⟩, d4, d5, d6, d7, d8, d9, d10⟩ := v_copy (o := 116) (v := 65) (by omega) (hm_wI mr 64 13 (-1))
    obtain ⟨md, e1, e2, e3, e4, e5⟩ := v_copy7 (o := 126) (v := 87) (by omega) mc
    unfold f_X2_begin
    rw [d1, Option.bind_some, e1, Option.bind_some, pI_some, Option.bind_some, pI_some, Option.bind_some, Option.bind_some]
    generalize hμb : hm_wI (hm_wI md 112 6 0) 112 5 (-1) = μb
    have B1 : ∀ a j, ¬ (a = 64 ∧ (j = 12 ∨ j = 13 ∨ j = 14)) → ¬ (112 ≤ a ∧ a ≤ 154) → μb.1 a j = μ.1 a j := fun a j z z1 => by
      rw [← hμb, wI_ne (by omega), wI_ne (by omega), e3 a j (by omega), d4 a j (by omega), wI_ne (by omega)]
      exact k1 a j (by omega) (by omega)
    have B2 : ∀ a j, (a = 64 ∧ (j = 12 ∨ j = 14)) ∨ (145 ≤ a ∧ a ≤ 154) → μb.1 a j = mr.1 a j := fun a j z => by
      rw [← hμb, wI_ne (by omega), wI_ne (by omega), e3 a j (by omega), d4 a j (by omega), wI_ne (by omega)]
    have b13 : μb.1 64 13 = -1 := by rw [← hμb, wI_ne (by omega), wI_ne (by omega), e3 _ _ (by omega), d4 _ _ (by omega), wI_at]
    have b5 : μb.1 112 5 = -1 := by rw [← hμb, wI_at]
    have b6 : μb.1 112 6 = Int32.ofNat 0 := by rw [← hμb, wI_ne (by omega), wI_at]; rfl
    have bL : hm_ln μb = hm_ln μ := by
      show μb.2.2.2.2.2 = _
      rw [← hμb]
      show md.2.2.2.2.2 = _
      rw [e2, d3]
      exact rL
    have bR : ∀ a t, a ≠ 150 → a ≠ 122 → μb.2.2.1 a t = μ.2.2.1 a t := fun a t z z1 => by
      rw [← hμb]
      show md.2.2.1 a t = _
      rw [e2, d10 a t (by omega)]
      exact rR a t z
    have bR6 : ∀ t, t < 6 → μb.2.2.1 122 t = μ.2.2.1 71 t := fun t ht => by
      rw [← hμb]
      show md.2.2.1 122 t = _
      rw [e2, d9 t ht]
      exact rR 71 t (by omega)
    have bV : ∀ a j, 116 ≤ a → a ≤ 125 → μb.1 a j = mc.1 a j := fun a j z z1 => by rw [← hμb, wI_ne (by omega), wI_ne (by omega), e3 a j (by omega)]
    have w65 : ∀ a j, 65 ≤ a → a ≤ 111 → (hm_wI mr 64 13 (-1)).1 a j = μ.1 a j := fun a j z z1 => by rw [wI_ne (by omega)]; exact k1 a j (by omega) (by omega)
    have bS : (μb.1 126 1 = μ.1 87 1 ∧ μb.1 126 2 = μ.1 87 2) ∧ ∀ k j, k < 17 → j < 26 → μb.1 (126 + 2 + k) j = μ.1 (87 + 2 + k) j := by
      refine ⟨⟨?_, ?_⟩, fun k j hk hj => ?_⟩
      · rw [← hμb, wI_ne (by omega), wI_ne (by omega), e4.1, d4 _ _ (by omega), w65 _ _ (by omega) (by omega)]
      · rw [← hμb, wI_ne (by omega), wI_ne (by omega), e4.2, d4 _ _ (by omega), w65 _ _ (by omega) (by omega)]
      · rw [← hμb, wI_ne (by omega), wI_ne (by omega), e5 k j hk hj, d4 _ _ (by omega), w65 _ _ (by omega) (by omega)]
    -- the reference begins
    generalize hma : cpm (cpm m4 181 0 184 25 25) 193 0 194 0 416 = ma
    have A1 : ∀ a j, ¬ (a = 184 ∧ 25 ≤ j) → a ≠ 194 → ma.1 a j = m4.1 a j := fun a j z z1 => by rw [← hma, cpm_ne (by omega), cpm_ne (by omega)]
    have A184 : ∀ k, k < 25 → ma.1 184 (25 + k) = μ.1 181 k := fun k hk => by
      rw [← hma, cpm_ne (by omega), cpm_eq rfl (by omega) (by omega), show 0 + (25 + k - 25) = k by omega]
      exact k2 _ _ (by omega) (by omega) (by omega) (by omega)
    have A194 : ∀ k, k < 416 → ma.1 194 k = μ.1 193 k := fun k hk => by
      rw [← hma, cpm_eq rfl (by omega) (by omega), cpm_ne (by omega), show 0 + (k - 0) = k by omega]
      exact k2 _ _ (by omega) (by omega) (by omega) (by omega)
    have A2 : ma.2 = m.2 := by rw [← hma]; exact k4r
    obtain ⟨ml, u1, u2, u3, u4, u5, u6⟩ := v_lays (μ := ma) (g := 6) (N := tmy T n) (by omega) (by omega) (by rw [A1 _ _ (by omega) (by omega)]; exact r4)
    rw [show f_X10_lays 6 ma = _ from u1, Option.bind_some, pI_some, Option.bind_some, pI_some, Option.bind_some, pI_some, Option.bind_some, show (64 : Int32) = Int32.ofNat 64 from rfl, ld_n (by omega) (by decide), Option.bind_some, wI_at]
    generalize hm0 : hm_wI (hm_wI (hm_wI ml 179 27 0) 179 28 (-1)) 179 47 2400 = m0
    have M1 : ∀ a j, ¬ (a = 179 ∧ (j = 27 ∨ j = 28 ∨ j = 47)) → m0.1 a j = ml.1 a j := fun a j z => by rw [← hm0, wI_ne (by omega), wI_ne (by omega), wI_ne (by omega)]
    have M2 : ∀ a j, ¬ (a = 179 ∧ (j = 27 ∨ j = 28 ∨ j = 47)) → a ≠ 181 → a ≠ 194 → ¬ (a = 184 ∧ 25 ≤ j) → m0.1 a j = m4.1 a j := fun a j z z1 z2 z3 => by rw [M1 a j z, u3 a j z1, A1 a j z3 z2]
    have M64 : m0.1 181 64 = Int32.ofNat (tmy T n) := by rw [M1 _ _ (by omega)]; exact u5
    have Mρ : ∀ k, k < 64 ∨ (65 ≤ k ∧ k < 2465) ∨ (2865 ≤ k ∧ k < 5265) → m0.1 181 k = μ.1 181 k := fun k hk => by
      rw [M1 _ _ (by omega), u4 k (by omega) (by omega) (by omega), A1 _ _ (by omega) (by omega)]
      exact k2 _ _ (by omega) (by omega) (by omega) (by omega)
    have Mr : m0.2 = m.2 := by rw [← hm0]; show ml.2 = _; rw [u2, A2]
    rw [M64, show (2400 : Int32) = Int32.ofNat 2400 from rfl, n_add]
    generalize hρ0 : m0.1 181 = ρ0 at Mρ
    have Vb : VR μb 65 ρ0 := VR_lay (a1.keep bL (fun t _ => bR _ _ (by omega) (by omega)) (fun a j z => B1 a j (by omega) (by omega))) Mρ
    obtain ⟨law, Lw, l1, l2, l3⟩ := lawF Vb
    have hPG : PGM μb 151 C L := by
      have i1 : hm_ln μb (151 + 1) = 400 := by rw [bL]; exact (la_a hL (by decide) (a := 152) rfl).2.2.2
      have i2 : hm_ln μb (151 + 2) = 400 := by rw [bL]; exact (la_a hL (by decide) (a := 153) rfl).2.2.2
      have i3 : hm_ln μb (151 + 3) = 72 := by rw [bL]; exact (la_a hL (by decide) (a := 154) rfl).2.2.2
      refine ⟨⟨hC, hLn⟩, ⟨by rw [B2 _ _ (by omega)]; exact c3, by rw [B2 _ _ (by omega)]; exact c4⟩, ⟨by omega, by omega⟩, ⟨by omega, by omega⟩, ⟨by omega, by omega⟩, ?_⟩
      have q1 : μb.1 (151 + 1) = mr.1 152 := funext fun j => B2 _ _ (by omega)
      have q2 : μb.1 (151 + 2) = mr.1 153 := funext fun j => B2 _ _ (by omega)
      have q3 : μb.1 (151 + 3) = mr.1 154 := funext fun j => B2 _ _ (by omega)
      rw [q1, q2, q3]
      exact cl
    obtain ⟨-, -, L2, eL2, -, hcl⟩ := text_ok (N := tmy T n) (ord := true) (fun k hk => tkc_end hk) (by omega) 12 0 0 [] [] C L (Nat.le_refl _) (by omega) hr
    have hB : BASE μb C L Lw law := by
      refine ⟨hPG, fun k hk => ?_, by rw [B2 _ _ (by omega)]; exact c5, l1, l2, by rw [bL]; exact ln_109 hL, by rw [bL]; exact (la_a hL (by decide) (a := 115) rfl).2.2.2⟩
      rw [eL2] at hk
      exact hcl _ hPG.mt k hk
    have hTT : TT ρ0 (tmy T n) (tkc T n) (vlc T n) := by
      refine ⟨Vb.1.d, by omega, fun k hk => ?_, fun k hk => tkc_end hk⟩
      have t4 := tkc_lt (fun i hi => (hT i hi).1) k
      have v4 := vlc_lt (T := T) (n := n) k
      have tk := r3 k (by omega)
      rw [← hρ0, M1 _ _ (by omega), M1 _ _ (by omega), show 65 + 2400 + k = 65 + 400 * 6 + k by omega, show 2865 + 2400 + k = 2865 + 400 * 6 + k by omega, (u6 k hk).1, (u6 k hk).2, A1 _ _ (by omega) (by omega), A1 _ _ (by omega) (by omega)]
      exact ⟨tk.2.1, tk.2.2, by omega, by omega⟩
    obtain ⟨s0, E0, s9, s10, sE⟩ := PS_to a4
    have h33 : m0.1 179 33 = μ.1 179 33 := by
      rw [M2 _ _ (by omega) (by omega) (by omega) (by omega)]
      exact k2 _ _ (by omega) (by omega) (by omega) (by omega)
    have e54 : ρ0 54 = μ.1 181 54 := Mρ 54 (by omega)
    have hLS : LSt μb m0 ρ0 μb m0 ρ0 0 (-1) s0 E0 := by
      refine ⟨⟨Vb.2.2.2.d, SR9_g s9 (fun a j z1 z2 => B1 a j (by omega) (by omega)), b6, b5, fC_refl _⟩, ⟨hρ0, SR10_g s10 h33 (fun j => ?_), ?_, ?_, fR_refl _⟩, Vb.1.d, fun _ _ => rfl, by rw [e54]; exact sE⟩
      · rw [M2 _ _ (by omega) (by omega) (by omega) (by omega)]
        exact k2 _ _ (by omega) (by omega) (by omega) (by omega)
      · rw [← hm0, wI_ne (by omega), wI_ne (by omega), wI_at]; rfl
      · rw [← hm0, wI_ne (by omega), wI_at]
    have w33 : ma.1 179 33 = μ.1 179 33 := by
      rw [A1 _ _ (by omega) (by omega)]
      exact k2 _ _ (by omega) (by omega) (by omega) (by omega)
    have m0m : ∀ a j, ¬ (179 ≤ a ∧ a ≤ 204) → m0.1 a j = m.1 a j := fun a j z => by
      rw [M2 a j (by omega) (by omega) (by omega) (by omega)]; exact k3 a j z
    have m0k : ∀ a j, 179 ≤ a → a ≤ 204 → a ≠ 181 → a ≠ 184 → a ≠ 194 → ¬ (188 ≤ a ∧ a ≤ 190) → ¬ (a = 179 ∧ ((8 ≤ j ∧ j ≤ 10) ∨ j = 13 ∨ j = 14 ∨ (18 ≤ j ∧ j ≤ 21) ∨ j = 46 ∨ j = 27 ∨ j = 28 ∨ j = 47)) → m0.1 a j = μ.1 a j := fun a j z1 z2 z3 z4 z5 z6 z7 => by
      rw [M2 a j (by omega) z3 z5 (by omega)]; exact k2 a j z1 z2 (by omega) z6
    have m46 : m0.1 179 46 = -1 := by rw [M2 _ _ (by omega) (by omega) (by omega) (by omega)]; exact k46
    have m14 : m0.1 179 14 = -1 := by rw [M2 _ _ (by omega) (by omega) (by omega) (by omega)]; exact r7
    have m13 : m0.1 179 13 = 0 := by rw [M2 _ _ (by omega) (by omega) (by omega) (by omega)]; exact r5
    have m184 : ∀ k, k < 25 → m0.1 184 (25 + k) = ρ0 k := fun k hk => by rw [M1 _ _ (by omega), u3 _ _ (by omega), A184 k hk, Mρ k (by omega)]
    have m194 : ∀ k, k < 416 → m0.1 194 k = μ.1 193 k := fun k hk => by rw [M1 _ _ (by omega), u3 _ _ (by omega), A194 k hk]
    obtain ⟨μ1, m1, f1, f2, f3⟩ := ls_text hB l3 hTT 12 0 0 [] [] μb m0 ρ0 0 (-1) s0 E0 (Nat.le_refl _) (by omega) hr hLS (by rw [← hm0, wI_at]; rfl)
    have f1r : μ1.2 = μb.2 := f1.1
    rcases f3 with ⟨q, g1, g2⟩ | ⟨ρ', D', la', s', E', g1, g2, g3⟩
    · -- taken back
      rw [show ∀ e, f_X9_orders_L67 e hm_fu 0 μb = FAIL9 q μ1 from fun e => g1 e hm_fu (fu_lt (by omega)), show ∀ w e, f_X10_orders_L95 w (Int32.ofNat (2400 + tmy T n)) e hm_fu 0 m0 = FAIL10 w q m1 from fun w e => g2 w e hm_fu (fu_lt (by omega))]
      obtain ⟨mx, x1, ⟨x2, x3⟩, x4, x5, x6, x7, x8, x9, x10⟩ := v_copy (o := 65) (v := 116) (by omega) μ1
      obtain ⟨my, y1, y2, y3, y4, y5⟩ := v_copy7 (o := 87) (v := 126) (by omega) mx
      unfold FAIL9 f_X2_takeBack FAIL10
      rw [x1, Option.bind_some, y1, Option.bind_some, Option.bind_some, pI_some, Option.bind_some, v_rf9 rk3, b2_some, bak1, Option.bind_some, pI_some, Option.bind_some, pI_some, Option.bind_some, v_rf10 rk3, b2_some]
      generalize hmz : hm_wI (hm_wI (cpm (cpm m1 184 25 181 0 25) 194 0 193 0 416) 179 33 (ma.1 179 33)) 179 46 (Int32.ofNat q) = mz
      have Y1 : ∀ a j, ¬ (65 ≤ a ∧ a ≤ 74) → ¬ (87 ≤ a ∧ a ≤ 105) → my.1 a j = μ1.1 a j := fun a j z z1 => by rw [y3 a j (by omega), x4 a j (by omega)]
      have YR : ∀ a t, a ≠ 71 → my.2.2.1 a t = μb.2.2.1 a t := fun a t z => by rw [y2, x10 a t (by omega), f1r]
      have YL : hm_ln my = hm_ln μ := by
        show my.2.2.2.2.2 = _
        rw [y2, x3, f1r]
        exact bL
      have Z1 : ∀ a j, ¬ (a = 179 ∧ (j = 33 ∨ j = 46)) → ¬ (a = 181 ∧ j < 25) → a ≠ 193 → mz.1 a j = m1.1 a j := fun a j z z1 z2 => by rw [← hmz, wI_ne (by omega), wI_ne (by omega), cpm_ne (by omega), cpm_ne (by omega)]
      have Z33 : mz.1 179 33 = μ.1 179 33 := by rw [← hmz, wI_ne (by omega), wI_at, w33]
      have Z46 : mz.1 179 46 = Int32.ofNat q := by rw [← hmz, wI_at]
      have Z193 : ∀ k, k < 416 → mz.1 193 k = μ.1 193 k := fun k hk => by
        rw [← hmz, wI_ne (by omega), wI_ne (by omega), cpm_eq rfl (by omega) (by omega), cpm_ne (by omega), show 0 + (k - 0) = k by omega, f2.2 _ _ (by omega) (by omega) (by omega), m194 k hk]
      have Z181 : mz.1 181 = ρ0 := funext fun k => by
        by_cases z : k < 25
        · rw [← hmz, wI_ne (by omega), wI_ne (by omega), cpm_ne (by omega), cpm_eq rfl (by omega) (by omega), show 25 + (k - 0) = 25 + k by omega, f2.2 _ _ (by omega) (by omega) (by omega), m184 k z]
        · rw [Z1 _ _ (by omega) (by omega) (by omega), f2.2 _ _ (by omega) (by omega) (by omega), hρ0]
      have Zr : mz.2.2 = m.2.2 := by
        rw [← hmz]
        show m1.2.2 = _
        rw [f2.1, Mr]
      -- the two halves
      have N1 : ∀ a j, ¬ (179 ≤ a ∧ a ≤ 204) → ¬ (a = 64 ∧ (j = 12 ∨ j = 13 ∨ j = 14 ∨ j = 16)) → ¬ (65 ≤ a ∧ a ≤ 74) → ¬ (87 ≤ a ∧ a ≤ 154) → a ≠ 157 → (rf9 (-3) (hm_wI my 64 14 (Int32.ofNat q))).1 a j = μ.1 a j := fun a j z z1 z2 z3 z4 => by
        rw [rf9_ne (by omega), wI_ne (by omega), Y1 a j z2 (by omega), f1.2 a j (by omega) (by omega) (by omega) (by omega)]
        exact B1 a j (by omega) (by omega)
      have N2 : ∀ a j, 65 ≤ a → a ≤ 111 → (rf9 (-3) (hm_wI my 64 14 (Int32.ofNat q))).1 a j = my.1 a j := fun a j z z1 => by rw [rf9_ne (by omega), wI_ne (by omega)]
      have X1 : ∀ a j, 116 ≤ a → a ≤ 149 → μ1.1 a j = μb.1 a j := fun a j z z1 => f1.2 a j (by omega) (by omega) (by omega) (by omega)
      refine ⟨_, _, _, rfl, rfl, fun a j z1 z2 => ?_, fun a j z => ?_, ?_, rf10_mix ?_⟩
      · rw [rf9_ne (by omega), wI_ne (by omega), Y1 a j (by omega) (by omega), f1.2 a j (by omega) (by omega) (by omega) (by omega)]
        exact B1 a j (by omega) (by omega)
      · unfold rf10
        rw [wI_ne (by omega), wI_ne (by omega), Z1 a j (by omega) (by omega) (by omega), f2.2 a j (by omega) (by omega) (by omega)]
        exact m0m a j z
      · exact Zr
      · obtain ⟨p1, p2, p3, p4⟩ := ord_PP (M := mix (rf9 (-3) (hm_wI my 64 14 (Int32.ofNat q))) mz) h (fun a j z z1 z2 z3 z4 => by rw [mix_a z]; exact N1 a j z z1 z2 z3 z4) (fun a j z z1 z2 z3 z4 z5 z6 => by rw [mix_b z z1, Z1 a j (by omega) (by omega) (by omega), f2.2 a j (by omega) (by omega) (by omega)]; exact m0k a j z z1 z3 z4 (by omega) (by omega) (by omega)) YL (fun a t z => by
            show my.2.2.1 a t = _
            rw [YR a t (by omega)]; exact bR a t (by omega) (by omega)) (by rw [mix_a (by omega), rf9_ne (by omega), wI_ne (by omega), Y1 _ _ (by omega) (by omega), f1.2 _ _ (by omega) (by omega) (by omega) (by omega), B2 _ _ (by omega), k12]) (by rw [mix_b (by omega) (by omega), Z1 _ _ (by omega) (by omega) (by omega), f2.2 _ _ (by omega) (by omega) (by omega), m13])
        refine rfm_PP ?_ p1 p2 ?_ p3 p4 ?_
        · rw [mix_row (by omega) (by omega), Z181]
          have G : ∀ a j, 65 ≤ a → a ≤ 74 → (mix (rf9 (-3) (hm_wI my 64 14 (Int32.ofNat q))) mz).1 a j = mx.1 a j := fun a j z z1 => by rw [mix_a (by omega), N2 a j z (by omega), y3 a j (by omega)]
          refine Vb.like (v := 65) (o := 65) (YL.trans bL.symm) (fun _ _ => rfl) ⟨?_, ?_, ?_, ?_⟩ (fun i hi => ⟨?_, ?_, ?_, ?_⟩) (fun i hi => ?_) (fun i hi => ⟨?_, ?_, ?_⟩) (fun t ht => ?_) (fun a j z => ?_)
          · rw [G _ _ (by omega) (by omega), x5.1, X1 _ _ (by omega) (by omega), bV _ _ (by omega) (by omega), d5.1, w65 _ _ (by omega) (by omega), B1 _ _ (by omega) (by omega)]
          · rw [G _ _ (by omega) (by omega), x5.2.1, X1 _ _ (by omega) (by omega), bV _ _ (by omega) (by omega), d5.2.1, w65 _ _ (by omega) (by omega), B1 _ _ (by omega) (by omega)]
          · rw [G _ _ (by omega) (by omega), x5.2.2.1, X1 _ _ (by omega) (by omega), bV _ _ (by omega) (by omega), d5.2.2.1, w65 _ _ (by omega) (by omega), B1 _ _ (by omega) (by omega)]
          · rw [G _ _ (by omega) (by omega), x5.2.2.2, X1 _ _ (by omega) (by omega), bV _ _ (by omega) (by omega), d5.2.2.2, w65 _ _ (by omega) (by omega), B1 _ _ (by omega) (by omega)]
          · rw [G _ _ (by omega) (by omega), (x6 i hi).1, X1 _ _ (by omega) (by omega), bV _ _ (by omega) (by omega), (d6 i hi).1, w65 _ _ (by omega) (by omega), B1 _ _ (by omega) (by omega)]
          · rw [G _ _ (by omega) (by omega), (x6 i hi).2.1, X1 _ _ (by omega) (by omega), bV _ _ (by omega) (by omega), (d6 i hi).2.1, w65 _ _ (by omega) (by omega), B1 _ _ (by omega) (by omega)]
          · rw [G _ _ (by omega) (by omega), (x6 i hi).2.2.1, X1 _ _ (by omega) (by omega), bV _ _ (by omega) (by omega), (d6 i hi).2.2.1, w65 _ _ (by omega) (by omega), B1 _ _ (by omega) (by omega)]
          · rw [G _ _ (by omega) (by omega), (x6 i hi).2.2.2, X1 _ _ (by omega) (by omega), bV _ _ (by omega) (by omega), (d6 i hi).2.2.2, w65 _ _ (by omega) (by omega), B1 _ _ (by omega) (by omega)]
          · rw [G _ _ (by omega) (by omega), x7 i hi, X1 _ _ (by omega) (by omega), bV _ _ (by omega) (by omega), d7 i hi, w65 _ _ (by omega) (by omega), B1 _ _ (by omega) (by omega)]
          · rw [G _ _ (by omega) (by omega), (x8 i hi).1, X1 _ _ (by omega) (by omega), bV _ _ (by omega) (by omega), (d8 i hi).1, w65 _ _ (by omega) (by omega), B1 _ _ (by omega) (by omega)]
          · rw [G _ _ (by omega) (by omega), (x8 i hi).2.1, X1 _ _ (by omega) (by omega), bV _ _ (by omega) (by omega), (d8 i hi).2.1, w65 _ _ (by omega) (by omega), B1 _ _ (by omega) (by omega)]
          · rw [G _ _ (by omega) (by omega), (x8 i hi).2.2, X1 _ _ (by omega) (by omega), bV _ _ (by omega) (by omega), (d8 i hi).2.2, w65 _ _ (by omega) (by omega), B1 _ _ (by omega) (by omega)]
          · show my.2.2.1 (65 + 6) t = _
            rw [y2, x9 t ht, f1r, bR6 t ht]
            exact (bR _ _ (by omega) (by omega)).symm
          · rw [mix_a (by omega), N1 a j (by omega) (by omega) (by omega) (by omega) (by omega)]
            exact (B1 a j (by omega) (by omega)).symm
        · refine PS_of (s := s0) (E := E0) (SR9_g2 s9 ?_ ?_ fun k j hk hj => ?_) (SR10_g2 s10 ?_ fun j hj => ?_) ?_
          · rw [mix_a (by omega), N2 _ _ (by omega) (by omega), y4.1, x4 _ _ (by omega), X1 _ _ (by omega) (by omega), bS.1.1]
          · rw [mix_a (by omega), N2 _ _ (by omega) (by omega), y4.2, x4 _ _ (by omega), X1 _ _ (by omega) (by omega), bS.1.2]
          · rw [mix_a (by omega), N2 _ _ (by omega) (by omega), y5 k j hk hj, x4 _ _ (by omega), X1 _ _ (by omega) (by omega), bS.2 k j hk hj]
          · rw [mix_b (by omega) (by omega), Z33]
          · rw [mix_b (by omega) (by omega), Z193 j hj]
          · rw [mix_b (by omega) (by omega), Z181, e54]; exact sE
        · refine rf_PM2 rk3 a6 ?_ ?_ ?_ ?_ (fun j => ?_) (fun j => ?_)
          · rw [mix_a (by omega), mix_b (by omega) (by omega), rf9_ne (by omega), wI_ne (by omega), Y1 _ _ (by omega) (by omega), f1.2 _ _ (by omega) (by omega) (by omega) (by omega), b13, Z1 _ _ (by omega) (by omega) (by omega), f2.2 _ _ (by omega) (by omega) (by omega), m14]
          · rw [mix_a (by omega), mix_b (by omega) (by omega), rf9_ne (by omega), wI_at, Z46]
          · rw [mix_a (by omega), mix_b (by omega) (by omega), rf9_ne (by omega), wI_ne (by omega), Y1 _ _ (by omega) (by omega), f1.2 _ _ (by omega) (by omega) (by omega) (by omega), B1 _ _ (by omega) (by omega), Z1 _ _ (by omega) (by omega) (by omega), f2.2 _ _ (by omega) (by omega) (by omega), m0k _ _ (by omega) (by omega) (by omega) (by omega) (by omega) (by omega) (by omega)]
            exact a6.1.2.2.1
          · rw [mix_a (by omega), rf9_16]
          · rw [mix_a (by omega)]
            exact rf9_157 (fun j => by rw [wI_ne (by omega), Y1 _ _ (by omega) (by omega), f1.2 _ _ (by omega) (by omega) (by omega) (by omega), B1 _ _ (by omega) (by omega)]) j
          · rw [mix_b (by omega) (by omega), Z1 _ _ (by omega) (by omega) (by omega), f2.2 _ _ (by omega) (by omega) (by omega), m0k _ _ (by omega) (by omega) (by omega) (by omega) (by omega) (by omega) (by omega)]
    · rw [show ∀ e, f_X9_orders_L67 e hm_fu 0 μb = e μ1 from fun e => g1 e hm_fu (fu_lt (by omega)), show ∀ w e, f_X10_orders_L95 w (Int32.ofNat (2400 + tmy T n)) e hm_fu 0 m0 = e m1 from fun w e => g2 w e hm_fu (fu_lt (by omega))]
      obtain ⟨⟨v1, v2, v3, v4, v5⟩, ⟨w1, w2, w3, w4, w5⟩, hD', hk', hE'⟩ := g3
      rw [v3, w3, v_gr9, v_gd10, b2_some, b2_some]
      refine ⟨_, _, _, rfl, rfl, fun a j z1 z2 => ?_, fun a j z => ?_, ?_, ?_⟩
      · rw [wI_ne (by omega), f1.2 a j (by omega) (by omega) (by omega) (by omega)]
        exact B1 a j (by omega) (by omega)
      · rw [wI_ne (by omega), f2.2 a j (by omega) (by omega) (by omega)]
        exact m0m a j z
      · show m1.2.2 = _
        rw [f2.1, Mr]
      · have r181 : (mix (hm_wI μ1 64 16 0) (hm_wI m1 179 0 0)).1 181 = ρ' := by
          rw [mix_row (by omega) (by omega), ← w1]
          exact funext fun j => wI_ne (by omega)
        have rL' : hm_ln (mix (hm_wI μ1 64 16 0) (hm_wI m1 179 0 0)) = hm_ln μ := by
          show μ1.2.2.2.2.2 = _
          rw [f1r]
          exact bL
        obtain ⟨p1, p2, p3, p4⟩ := ord_PP (M := mix (hm_wI μ1 64 16 0) (hm_wI m1 179 0 0)) h (fun a j z z1 z2 z3 z4 => by rw [mix_a z, wI_ne (by omega), f1.2 a j (by omega) (by omega) (by omega) (by omega)]; exact B1 a j (by omega) (by omega)) (fun a j z z1 z2 z3 z4 z5 z6 => by rw [mix_b z z1, wI_ne (by omega), f2.2 a j (by omega) (by omega) (by omega)]; exact m0k a j z z1 z3 z4 (by omega) (by omega) (by omega)) rL' (fun a t z => by
            show μ1.2.2.1 a t = _
            rw [f1r]; exact bR a t (by omega) (by omega)) (by rw [mix_a (by omega), wI_ne (by omega), f1.2 _ _ (by omega) (by omega) (by omega) (by omega), B2 _ _ (by omega), k12]) (by rw [mix_b (by omega) (by omega), wI_ne (by omega), f2.2 _ _ (by omega) (by omega) (by omega), m13])
        refine ⟨?_, p1, p2, ?_, p3, ?_, p4⟩
        · rw [r181]
          refine VR_new Vb (v1.g fun a j z z1 => ?_) hD' hk' ?_ fun a j z => ?_
          · rw [mix_a (by omega), wI_ne (by omega)]
          · show μ1.2.2 = _
            rw [f1r]
          · rw [mix_a (by omega), wI_ne (by omega), f1.2 a j (by omega) (by omega) (by omega) (by omega)]
        · refine PS_of (s := s') (E := E') (SR9_g v2 fun a j z1 z2 => ?_) (SR10_g w2 ?_ fun j => ?_) ?_
          · rw [mix_a (by omega), wI_ne (by omega)]
          · rw [mix_b (by omega) (by omega), wI_ne (by omega)]
          · rw [mix_b (by omega) (by omega), wI_ne (by omega)]
          · rw [r181, hk' 54 (by omega)]; exact hE'
        · unfold PM at a6 ⊢
          have q1 : ∀ a j, a = 157 ∨ (a = 64 ∧ j = 15) → (mix (hm_wI μ1 64 16 0) (hm_wI m1 179 0 0)).1 a j = μ.1 a j := fun a j z => by
            rw [mix_a (by omega), wI_ne (by omega), f1.2 a j (by omega) (by omega) (by omega) (by omega)]
            exact B1 a j (by omega) (by omega)
          have q2 : ∀ a j, a = 180 ∨ (a = 179 ∧ j = 6) → (mix (hm_wI μ1 64 16 0) (hm_wI m1 179 0 0)).1 a j = μ.1 a j := fun a j z => by
            rw [mix_b (by omega) (by omega), wI_ne (by omega), f2.2 a j (by omega) (by omega) (by omega)]
            exact m0k a j (by omega) (by omega) (by omega) (by omega) (by omega) (by omega) (by omega)
          have q3 : (mix (hm_wI μ1 64 16 0) (hm_wI m1 179 0 0)).1 64 13 = -1 := by rw [mix_a (by omega), wI_ne (by omega), f1.2 _ _ (by omega) (by omega) (by omega) (by omega), b13]
          have q4 : (mix (hm_wI μ1 64 16 0) (hm_wI m1 179 0 0)).1 179 14 = -1 := by rw [mix_b (by omega) (by omega), wI_ne (by omega), f2.2 _ _ (by omega) (by omega) (by omega), m14]
          have q5 : (mix (hm_wI μ1 64 16 0) (hm_wI m1 179 0 0)).1 64 14 = -1 := by rw [mix_a (by omega), wI_ne (by omega), f1.2 _ _ (by omega) (by omega) (by omega) (by omega), B2 _ _ (by omega), k14]
          have q6 : (mix (hm_wI μ1 64 16 0) (hm_wI m1 179 0 0)).1 179 46 = -1 := by rw [mix_b (by omega) (by omega), wI_ne (by omega), f2.2 _ _ (by omega) (by omega) (by omega), m46]
          have q7 : (mix (hm_wI μ1 64 16 0) (hm_wI m1 179 0 0)).1 64 16 = 0 := by rw [mix_a (by omega), wI_at]
          have q8 : (mix (hm_wI μ1 64 16 0) (hm_wI m1 179 0 0)).1 179 0 = 0 := by rw [mix_b (by omega) (by omega), wI_at]
          rw [q3, q4, q5, q6, q7, q8, q1 64 15 (by omega), q2 179 6 (by omega), q1 157 0 (by omega), q1 157 1 (by omega), q1 157 2 (by omega), q1 157 3 (by omega), q1 157 4 (by omega), q2 180 1 (by omega), q2 180 2 (by omega), q2 180 3 (by omega), q2 180 5 (by omega), q2 180 6 (by omega)]
          exact ⟨⟨rfl, rfl, a6.1.2.2.1, rfl⟩, a6.2⟩
theorem pu_orders {ν : hm_N} {μ : hm_M} (hL : hm_LL ν μ) (h : PP μ) : ∃ r μ1 μ2, f_X9_orders μ = some (r, μ1) ∧ f_X10_orders μ1 = some (r, μ2) ∧ PP μ2 := by
  obtain ⟨r, μ1, m1, q1, q2, q3, q4, q5, q6⟩ := ord_both (m := μ) hL h (fun _ _ _ _ => rfl)
  obtain ⟨r', μ1', m1', p1, p2, p3, p4, p5, p6⟩ := ord_both (m := μ1) hL h q3
  rw [q1] at p1
  cases p1
  refine ⟨r, μ1, m1', q1, p2, p6.ext p5 fun a j => ?_⟩
  by_cases z : 179 ≤ a ∧ a ≤ 204
  · rw [mix_b z.1 z.2]
  · rw [mix_a z]; exact p4 a j z
end
