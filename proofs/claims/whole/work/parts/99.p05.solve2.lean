section
def fOf (w : Bool) (c : Nat → Nat → Nat) (tb : tbl) (G l : Nat) (q0 : Nat × Nat) : Nat → Nat × Nat
  | 0 => q0
  | P + 1 => if (tb G P).1 < 1000000 ∧ c P l < 1000000 then of2 (fOf w c tb G l q0 P) (rop w (tb G P).1 (c P l)) (tb G P).2 else fOf w c tb G l q0 P
def gg (w : Bool) (c : Nat → Nat → Nat) (n : Nat) (tb : tbl) (G low P : Nat) : tbl := fun S l => if S = G ||| 2 ^ l ∧ low < l ∧ l < n ∧ G.testBit l = false then fOf w c tb G l (tb S l) P else tb S l
def lwt (G : Nat) : Nat := if G.testBit 0 then 0 else if G.testBit 1 then 1 else if G.testBit 2 then 2 else if G.testBit 3 then 3 else if G.testBit 4 then 4 else if G.testBit 5 then 5 else if G.testBit 6 then 6 else 7
theorem v_ntz : ∀ G, G < 256 → 1 ≤ G → f_J6_numberOfTrailingZeros_0f7a4 (Int32.ofNat G) = some (Int32.ofNat (lwt G)) := by decide +kernel
theorem lwt_p : ∀ G, G < 256 → 1 ≤ G → G.testBit (lwt G) = true ∧ ∀ x, x < lwt G → G.testBit x = false := by decide +kernel
/-- the table when the groups below one have gone further -/
def INV (w : Bool) (c : Nat → Nat → Nat) (n G : Nat) (tb : tbl) : Prop := ∀ S l, S < 2 ^ n → l < n → (S.testBit l = false → tb S l = (1000000, 0)) ∧ (S = 2 ^ l → tb S l = (0, 1)) ∧ (S.testBit l = true → S ≠ 2 ^ l → lowB S l → tb S l = (1000000, 0)) ∧ (S.testBit l = true → ¬ lowB S l → tb S l = if S ^^^ 2 ^ l < G then fOf w c tb (S ^^^ 2 ^ l) l (1000000, 0) n else (1000000, 0)) ∧ ((tb S l).1 < 1000000 → (tb S l).1 ≤ 9 * S)
variable {m : hm_M} {n : Nat} {tb : tbl} {w : Bool} {c : Nat → Nat → Nat}
theorem fOf_s {G l P : Nat} {q0 : Nat × Nat} : fOf w c tb G l q0 (P + 1) = if (tb G P).1 < 1000000 ∧ c P l < 1000000 then of2 (fOf w c tb G l q0 P) (rop w (tb G P).1 (c P l)) (tb G P).2 else fOf w c tb G l q0 P := rfl
theorem fOf_cg {tb1 : tbl} {G l : Nat} {q0 : Nat × Nat} : ∀ {P : Nat}, (∀ p, p < P → tb1 G p = tb G p) → fOf w c tb1 G l q0 P = fOf w c tb G l q0 P
  | 0, _ => rfl
  | P + 1, h => by
    unfold fOf
    rw [fOf_cg (P := P) fun p hp => h p (by omega), h P (by omega)]
theorem fOf_no {G l : Nat} {q0 : Nat × Nat} : ∀ {P : Nat}, (∀ p, p < P → (tb G p).1 = 1000000) → fOf w c tb G l q0 P = q0
  | 0, _ => rfl
  | P + 1, h => by
    unfold fOf
    rw [if_neg (by rw [h P (by omega)]; omega)]
    exact fOf_no fun p hp => h p (by omega)
theorem fOf_bd {G l B : Nat} (hc : c9 c) (hl : l < 8) : ∀ {P : Nat}, P ≤ 8 → (∀ p, p < P → (tb G p).1 < 1000000 → (tb G p).1 ≤ B) → (fOf w c tb G l (1000000, 0) P).1 < 1000000 → (fOf w c tb G l (1000000, 0) P).1 ≤ B + 9
  | 0, _, _, h => absurd h (Nat.lt_irrefl _)
  | P + 1, hP, h, h1 => by
    unfold fOf at h1 ⊢
    have ih := fOf_bd (P := P) hc hl (by omega) fun p hp => h p (by omega)
    split at h1
    · rename_i z
      rw [if_pos z]
      have b1 := h P (by omega) z.1
      have b2 := hc P l (by omega) hl
      have b3 : rop w (tb G P).1 (c P l) ≤ B + 9 := by
        unfold rop
        split <;> omega
      unfold of2 at h1 ⊢
      split
      · exact b3
      · rename_i y
        rw [if_neg y] at h1
        split
        · rename_i y2
          rw [if_pos y2] at h1
          exact ih h1
        · rename_i y2
          rw [if_neg y2] at h1
          exact ih h1
    · rename_i z
      rw [if_neg z]
      exact ih h1
theorem gg_G {G low P q : Nat} : gg w c n tb G low P G q = tb G q := by
  unfold gg
  refine if_neg ?_
  rintro ⟨h, -, -, h4⟩
  exact or_ne h4 h
theorem xor_or {S l G : Nat} (h : S.testBit l = true) (e : S ^^^ 2 ^ l = G) : S = G ||| 2 ^ l ∧ G.testBit l = false := by
  refine ⟨Nat.eq_of_testBit_eq fun x => ?_, ?_⟩
  · rw [bit_or, ← e, bit_xp]
    by_cases z : x = l
    · subst z; rw [h]; simp
    · simp [z]
  · rw [← e, bit_xp, h]; simp
theorem or_xor {G l : Nat} (h : G.testBit l = false) : (G ||| 2 ^ l) ^^^ 2 ^ l = G := Nat.eq_of_testBit_eq fun x => by
  rw [bit_xp, bit_or]
  by_cases z : x = l
  · subst z; rw [h]; simp
  · simp [z]
theorem or_gt {G l : Nat} (h : G.testBit l = false) : G < G ||| 2 ^ l := by
  have h1 : G ≤ G ||| 2 ^ l := Nat.left_le_or
  have h2 := or_ne h
  omega
theorem INV_step {G : Nat} (hn : n ≤ 8) (hc : c9 c) (hG1 : 1 ≤ G) (hG : G < 2 ^ n) (h : INV w c n G tb) : INV w c n (G + 1) (gg w c n tb G (lwt G) n) := by
  have h256 := p256 hn
  obtain ⟨lp1, lp2⟩ := lwt_p G (by omega) hG1
  have hGl : lwt G < n := by
    rcases Nat.lt_or_ge (lwt G) n with z | z
    · exact z
    · have := Nat.testBit_lt_two_pow (Nat.lt_of_lt_of_le hG (Nat.pow_le_pow_right (by decide) z))
      rw [lp1] at this
      cases this
  intro S l hS hl
  obtain ⟨i1, i2, i3, i4, i5⟩ := h S l hS hl
  have nc : ¬ (S = G ||| 2 ^ l ∧ lwt G < l ∧ l < n ∧ G.testBit l = false) → gg w c n tb G (lwt G) n S l = tb S l := fun z => if_neg z
  refine ⟨fun z => ?_, fun z => ?_, fun z1 z2 z3 => ?_, fun z1 z2 => ?_, fun z => ?_⟩
  · rw [nc]
    · exact i1 z
    · rintro ⟨y, -⟩
      rw [y, bit_or] at z
      simp at z
  · rw [nc]
    · exact i2 z
    · rintro ⟨y, -, -, y4⟩
      have := or_xor y4
      rw [← y, z, Nat.xor_self] at this
      omega
  · rw [nc]
    · exact i3 z1 z2 z3
    · rintro ⟨y, y2, -, -⟩
      have := z3 (lwt G) y2
      rw [y, bit_or, lp1] at this
      cases this
  · by_cases cd : S = G ||| 2 ^ l ∧ lwt G < l ∧ l < n ∧ G.testBit l = false
    · have e : S ^^^ 2 ^ l = G := by rw [cd.1]; exact or_xor cd.2.2.2
      have i4 := i4 z1 z2
      rw [e, if_neg (Nat.lt_irrefl _)] at i4
      rw [e, if_pos (by omega), fOf_cg (tb := tb) fun p _ => gg_G]
      unfold gg
      rw [if_pos cd, i4]
    · rw [nc cd, i4 z1 z2]
      by_cases y : S ^^^ 2 ^ l < G
      · rw [if_pos y, if_pos (by omega)]
        refine (fOf_cg fun p _ => ?_).symm
        unfold gg
        refine if_neg ?_
        rintro ⟨y1, -, -, y4⟩
        have := or_gt y4
        omega
      · by_cases y2 : S ^^^ 2 ^ l = G
        · exfalso
          obtain ⟨x1, x2⟩ := xor_or z1 y2
          refine cd ⟨x1, ?_, hl, x2⟩
          rcases Nat.lt_or_ge (lwt G) l with q | q
          · exact q
          · exfalso
            refine z2 fun x hx => ?_
            rw [x1, bit_or, lp2 x (by omega)]
            simp
            omega
        · rw [if_neg y, if_neg (by omega)]
  · unfold gg at z ⊢
    split at z
    · rename_i cd
      rw [if_pos cd]
      have e : S ^^^ 2 ^ l = G := by rw [cd.1]; exact or_xor cd.2.2.2
      have nl : ¬ lowB S l := fun q => by
        have := q (lwt G) cd.2.1
        rw [cd.1, bit_or, lp1] at this
        cases this
      have i4 := i4 (by rw [cd.1, bit_or]; simp) nl
      rw [e, if_neg (Nat.lt_irrefl _)] at i4
      rw [i4] at z ⊢
      have b := fOf_bd (B := 9 * G) hc (by omega) hn (fun p hp => (h G p hG hp).2.2.2.2) z
      have := or_gt cd.2.2.2
      rw [cd.1]
      omega
    · rename_i cd
      rw [if_neg cd]
      exact i5 z
theorem v_L72 {G : Nat} (hn : n ≤ 8) (h5 : m.1 145 5 = Int32.ofNat n) (h6 : m.1 145 6 = zb w) (hC : CT m n c) (hc : c9 c) (hG1 : 1 ≤ G) (hG : G < 2 ^ n) (hM : MT m n tb) (hV : INV w c n G tb) (v1 w2 : Int32) : ∃ m1, (MT m1 n (gg w c n tb G (lwt G) n) ∧ fV m m1) ∧ ∀ c57 e114 e108, f_X0_solve_L72 v1 w2 (Int32.ofNat G) (Int32.ofNat (lwt G)) c57 e114 e108 hm_fu (Int32.ofNat (lwt G)) m = e108 m1 := by
  have h256 := p256 hn
  obtain ⟨lp1, lp2⟩ := lwt_p G (by omega) hG1
  have hGl : lwt G < n := by
    rcases Nat.lt_or_ge (lwt G) n with z | z
    · exact z
    · have := Nat.testBit_lt_two_pow (Nat.lt_of_lt_of_le hG (Nat.pow_le_pow_right (by decide) z))
      rw [lp1] at this
      cases this
  have lp : ∃ (y' : Int32) (m1 : hm_M), (y' = Int32.ofNat (lwt G + (n - lwt G)) ∧ MT m1 n (gg w c n tb G (lwt G) (lwt G + (n - lwt G))) ∧ fV m m1) ∧ ∀ κ : (Int32 → hm_M → Option hm_M) × (hm_M → Option hm_M) × (hm_M → Option hm_M), f_X0_solve_L72 v1 w2 (Int32.ofNat G) (Int32.ofNat (lwt G)) κ.1 κ.2.1 κ.2.2 hm_fu (Int32.ofNat (lwt G)) m = κ.2.2 m1 := by
    refine lu2 (K := (Int32 → hm_M → Option hm_M) × (hm_M → Option hm_M) × (hm_M → Option hm_M)) (L := fun κ => f_X0_solve_L72 v1 w2 (Int32.ofNat G) (Int32.ofNat (lwt G)) κ.1 κ.2.1 κ.2.2) (fun k y m1 => y = Int32.ofNat (lwt G + k) ∧ MT m1 n (gg w c n tb G (lwt G) (lwt G + k)) ∧ fV m m1) (fun κ _ m1 => κ.2.2 m1) (n - lwt G) (fun k y m1 hk hI => ?_) (fun y m1 hI κ F => ?_) (fuel := hm_fu) (fu_lt (by omega)) (a := Int32.ofNat (lwt G)) (b := m) ⟨rfl, hM.cg fun S l hS hl => ?_, fV_refl m⟩
    · obtain ⟨rfl, M1, f1⟩ := hI
      have e5 : m1.1 145 5 = Int32.ofNat n := by rw [f1.2 _ _ (by omega) (by omega)]; exact h5
      have e6 : m1.1 145 6 = zb w := by rw [f1.2 _ _ (by omega) (by omega)]; exact h6
      have eC : CT m1 n c := fun a b ha hb hab => by rw [f1.2 _ _ (by omega) (by omega)]; exact hC a b ha hb hab
      have hP : lwt G + k < n := by omega
      obtain ⟨t1, t2, t3⟩ := M1 G (lwt G + k) hG hP
      rw [gg_G] at t1 t3
      have st : ∀ (κ : (Int32 → hm_M → Option hm_M) × (hm_M → Option hm_M) × (hm_M → Option hm_M)) F, f_X0_solve_L72 v1 w2 (Int32.ofNat G) (Int32.ofNat (lwt G)) κ.1 κ.2.1 κ.2.2 (F + 1) (Int32.ofNat (lwt G + k)) m1 = if (1000000 : Int32) ≤ Int32.ofNat (tb G (lwt G + k)).1 then f_X0_solve_L72 v1 w2 (Int32.ofNat G) (Int32.ofNat (lwt G)) κ.1 κ.2.1 κ.2.2 F (Int32.ofNat (lwt G + (k + 1))) m1 else Option.bind (f_X0_goFurther (Int32.ofNat G) (Int32.ofNat (lwt G)) (Int32.ofNat (lwt G + k)) m1) fun μ14 => f_X0_solve_L72 v1 w2 (Int32.ofNat G) (Int32.ofNat (lwt G)) κ.1 κ.2.1 κ.2.2 F (Int32.ofNat (lwt G + (k + 1))) μ14 := fun κ F => by
        rw [f_X0_solve_L72, e5, if_neg (by rw [n_le (by omega) (by omega)]; omega)]
        unfold f_X0_leastTo f_X0_solve_J102
        rw [show (8 : Int32) = Int32.ofNat 8 from rfl, n_mul, n_add, ld_n (by omega) (by decide), Option.bind_some, Option.bind_some, t1, show Int32.ofNat (lwt G + k) + 1 = Int32.ofNat (lwt G + (k + 1)) from n_add _ 1]
      by_cases z : (tb G (lwt G + k)).1 < 1000000
      · have hb := (hV G (lwt G + k) hG hP).2.2.2.2 z
        have hbit : G.testBit (lwt G + k) = true := by
          cases q : G.testBit (lwt G + k)
          · have := (hV G (lwt G + k) hG hP).1 q
            rw [this] at z
            omega
          · rfl
        obtain ⟨m2, g1, g2, g3⟩ := v_goF (m := m1) (tb := gg w c n tb G (lwt G) (lwt G + k)) (G := G) (low := lwt G) (p := lwt G + k) hn e5 e6 eC hc M1 hG hP hbit hGl (by rw [gg_G]; omega)
        refine ⟨_, m2, ⟨rfl, g2.cg fun S l hS hl => ?_, fV_trans f1 g3⟩, fun κ F => ?_⟩
        · unfold gf
          rw [gg_G]
          by_cases cd : S = G ||| 2 ^ l ∧ lwt G < l ∧ l < n ∧ G.testBit l = false
          · have e1 : gg w c n tb G (lwt G) (lwt G + (k + 1)) S l = fOf w c tb G l (tb S l) (lwt G + k + 1) := if_pos cd
            have e2 : gg w c n tb G (lwt G) (lwt G + k) S l = fOf w c tb G l (tb S l) (lwt G + k) := if_pos cd
            rw [e1, e2]
            by_cases y : c (lwt G + k) l < 1000000
            · rw [if_pos ⟨cd.1, cd.2.1, cd.2.2.1, cd.2.2.2, y⟩]
              rw [fOf_s, if_pos ⟨z, y⟩]
            · rw [if_neg (fun q => y q.2.2.2.2)]
              rw [fOf_s, if_neg (fun q => y q.2)]
          · have e1 : gg w c n tb G (lwt G) (lwt G + (k + 1)) S l = tb S l := if_neg cd
            have e2 : gg w c n tb G (lwt G) (lwt G + k) S l = tb S l := if_neg cd
            rw [e1, e2, if_neg]
            rintro ⟨y1, y2, y3, y4, -⟩
            exact cd ⟨y1, y2, y3, y4⟩
        · show f_X0_solve_L72 _ _ _ _ _ _ _ _ _ _ = _
          rw [st, if_neg (by rw [show (1000000 : Int32) = Int32.ofNat 1000000 from rfl, n_le (by omega) (by omega)]; omega), g1, Option.bind_some]
      · refine ⟨_, m1, ⟨rfl, M1.cg fun S l hS hl => ?_, f1⟩, fun κ F => ?_⟩
        · unfold gg
          by_cases cd : S = G ||| 2 ^ l ∧ lwt G < l ∧ l < n ∧ G.testBit l = false
          · rw [if_pos cd, if_pos cd]
            rw [show lwt G + (k + 1) = lwt G + k + 1 from rfl, fOf_s, if_neg (fun q => z q.1)]
          · rw [if_neg cd, if_neg cd]
        · show f_X0_solve_L72 _ _ _ _ _ _ _ _ _ _ = _
          rw [st, if_pos (by rw [show (1000000 : Int32) = Int32.ofNat 1000000 from rfl, n_le (by omega) (by omega)]; omega)]
    · obtain ⟨rfl, M1, f1⟩ := hI
      show f_X0_solve_L72 _ _ _ _ _ _ _ _ _ _ = _
      rw [f_X0_solve_L72, show m1.1 145 5 = Int32.ofNat n by rw [f1.2 _ _ (by omega) (by omega)]; exact h5, if_pos (by rw [n_le (by omega) (by omega)]; omega)]
    · unfold gg
      split
      · rw [fOf_no fun p hp => ?_]
        rw [(hV G p hG (by omega)).1 (lp2 p (by omega))]
      · rfl
  obtain ⟨y', m1, ⟨-, a1, a2⟩, he⟩ := lp
  exact ⟨m1, ⟨by rw [show lwt G + (n - lwt G) = n by omega] at a1; exact a1, a2⟩, fun c57 e114 e108 => he (c57, e114, e108)⟩
theorem v_fill {a : Nat} (x : Int32) (m : hm_M) : ∃ m1, f_J7_fill_53178 a 2048 x m = some m1 ∧ (∀ j, j < 2048 → m1.1 a j = x) ∧ m1.2 = m.2 ∧ ∀ b j, b ≠ a → m1.1 b j = m.1 b j := by
  unfold f_J7_fill_53178
  refine lo2 (L := f_J7_fill_53178_L5 a 2048 x (Int32.ofNat 2048) (fun m => some m)) (fun k y m1 => y = Int32.ofNat k ∧ (∀ j, j < k → m1.1 a j = x) ∧ m1.2 = m.2 ∧ ∀ b j, b ≠ a → m1.1 b j = m.1 b j) (fun o => ∃ m1, o = some m1 ∧ (∀ j, j < 2048 → m1.1 a j = x) ∧ m1.2 = m.2 ∧ ∀ b j, b ≠ a → m1.1 b j = m.1 b j) 2048 (fun k y m1 hk hI => Or.inl ?_) (fun y m1 hI F => ?_) (fu_lt (by omega)) ⟨rfl, fun j hj => absurd hj (Nat.not_lt_zero _), rfl, fun _ _ _ => rfl⟩
  · obtain ⟨rfl, a1, a2, a3⟩ := hI
    refine ⟨_, hm_wI m1 a k x, ⟨rfl, fun j hj => ?_, a2, fun b j hb => by rw [wI_ne (by omega)]; exact a3 b j hb⟩, fun F => ?_⟩
    · by_cases z : j = k
      · rw [z, wI_at]
      · rw [wI_ne (by omega)]; exact a1 j (by omega)
    · rw [f_J7_fill_53178_L5, if_neg (by rw [n_le (by omega) (by omega)]; omega), sd_n (by omega) (by decide), Option.bind_some, show Int32.ofNat k + 1 = Int32.ofNat (k + 1) from n_add k 1]
  · obtain ⟨rfl, a1, a2, a3⟩ := hI
    exact ⟨m1, by rw [f_J7_fill_53178_L5, if_pos (by decide)], a1, a2, a3⟩
def tb0 (k : Nat) : tbl := fun S l => if S = 2 ^ l ∧ l < k then (0, 1) else (1000000, 0)
theorem INV_0 (hn : n ≤ 8) : INV w c n 1 (tb0 n) := by
  intro S l hS hl
  refine ⟨fun z => ?_, fun z => ?_, fun z1 z2 z3 => ?_, fun z1 z2 => ?_, fun z => ?_⟩
  · refine if_neg ?_
    rintro ⟨y, -⟩
    rw [y, Nat.testBit_two_pow_self] at z
    cases z
  · exact if_pos ⟨z, hl⟩
  · exact if_neg fun y => z2 y.1
  · have ne : S ≠ 2 ^ l := fun y => z2 fun x hx => by
      rw [y, Nat.testBit_two_pow]
      exact decide_eq_false (by omega)
    rw [if_neg]
    · exact if_neg fun y => ne y.1
    · intro y
      have y : S ^^^ 2 ^ l = 0 := by omega
      obtain ⟨x1, -⟩ := xor_or z1 y
      rw [Nat.zero_or] at x1
      exact ne x1
  · unfold tb0 at z ⊢
    split
    · exact Nat.zero_le _
    · rename_i y
      rw [if_neg y] at z
      omega
theorem v_solve (hn : n ≤ 8) (h5 : m.1 145 5 = Int32.ofNat n) (hC : CT m n c) (hc : c9 c) : ∃ m1 tb, f_X0_solve (zb w) m = some m1 ∧ MT m1 n tb ∧ INV w c n (2 ^ n) tb ∧ (m1.2 = m.2 ∧ ∀ a j, ¬ (a = 145 ∧ j = 6) → a ≠ 147 → a ≠ 148 → m1.1 a j = m.1 a j) ∧ m1.1 145 6 = zb w := by
  have h256 := p256 hn
  have hp1 : 1 ≤ 2 ^ n := Nat.one_le_two_pow
  unfold f_X0_solve
  rw [zb_pZ, Option.bind_some, Option.bind_some, wI_ne (by omega), h5, n_shl n (by omega)]
  obtain ⟨m5, e1, e2, e3, e4⟩ := v_fill (a := 147) (1000000 : Int32) (hm_wI m 145 6 (zb w))
  obtain ⟨m7, e5, e6, e7, e8⟩ := v_fill (a := 148) (0 : Int32) m5
  rw [e1, Option.bind_some, e5, Option.bind_some]
  have F7 : m7.2 = m.2 ∧ ∀ a j, ¬ (a = 145 ∧ j = 6) → a ≠ 147 → a ≠ 148 → m7.1 a j = m.1 a j := ⟨by rw [e7, e3]; rfl, fun a j z1 z2 z3 => by rw [e8 a j z3, e4 a j z2, wI_ne z1]⟩
  have k6 : m7.1 145 6 = zb w := by rw [e8 _ _ (by omega), e4 _ _ (by omega), wI_at]
  have M7 : MT m7 n (tb0 0) := fun S l hS hl => by
    have : tb0 0 S l = (1000000, 0) := if_neg (by omega)
    rw [this, e8 _ _ (by omega), e2 _ (by omega), e6 _ (by omega)]
    exact ⟨rfl, rfl, Nat.le_refl _⟩
  refine lo2 (L := f_X0_solve_L31 (zb w) (Int32.ofNat (2 ^ n)) (fun μz10 => f_X0_solve_L57 (zb w) (Int32.ofNat (2 ^ n)) (fun μz16 => some μz16) hm_fu (1 : Int32) μz10)) (fun k y m1 => y = Int32.ofNat k ∧ MT m1 n (tb0 k) ∧ fV m7 m1) (fun o => ∃ m1 tb, o = some m1 ∧ MT m1 n tb ∧ INV w c n (2 ^ n) tb ∧ (m1.2 = m.2 ∧ ∀ a j, ¬ (a = 145 ∧ j = 6) → a ≠ 147 → a ≠ 148 → m1.1 a j = m.1 a j) ∧ m1.1 145 6 = zb w) n (fun k y m1 hk hI => Or.inl ?_) (fun y m1 hI F => ?_) (fu_lt (by omega)) ⟨rfl, M7, fV_refl m7⟩
  · obtain ⟨rfl, M1, f1⟩ := hI
    have hk2 : 2 ^ k < 2 ^ n := Nat.pow_lt_pow_right (by decide) hk
    obtain ⟨m2, o1, o2, o3⟩ := v_offer (S := 2 ^ k) (l := k) (s := 0) (x := 1) hn M1 hk2 hk (Nat.zero_le _)
    refine ⟨_, m2, ⟨rfl, o2.cg fun S l hS hl => ?_, fV_trans f1 o3⟩, fun F => ?_⟩
    · unfold setT tb0
      by_cases y : S = 2 ^ k ∧ l = k
      · rw [if_pos y, y.1, y.2, if_pos ⟨rfl, by omega⟩, if_neg (by omega)]
        rfl
      · rw [if_neg y]
        by_cases y2 : S = 2 ^ l ∧ l < k
        · rw [if_pos y2, if_pos ⟨y2.1, by omega⟩]
        · rw [if_neg y2, if_neg]
          rintro ⟨z1, z2⟩
          by_cases z : l = k
          · exact y ⟨by rw [z1, z], z⟩
          · exact y2 ⟨z1, by omega⟩
    · rw [f_X0_solve_L31, show m1.1 145 5 = Int32.ofNat n by rw [f1.2 _ _ (by omega) (by omega), F7.2 _ _ (by omega) (by omega) (by omega)]; exact h5, if_neg (by rw [n_le (by omega) (by omega)]; omega), n_shl k (by omega), show (0 : Int32) = Int32.ofNat 0 from rfl, show (1 : Int32) = Int32.ofNat 1 from rfl, o1, Option.bind_some, n_add]
  · obtain ⟨rfl, M1, f1⟩ := hI
    rw [f_X0_solve_L31, show m1.1 145 5 = Int32.ofNat n by rw [f1.2 _ _ (by omega) (by omega), F7.2 _ _ (by omega) (by omega) (by omega)]; exact h5, if_pos (by rw [n_le (by omega) (by omega)]; omega)]
    refine lo2 (L := f_X0_solve_L57 (zb w) (Int32.ofNat (2 ^ n)) (fun m => some m)) (fun k y m2 => y = Int32.ofNat (1 + k) ∧ (∃ tb, MT m2 n tb ∧ INV w c n (1 + k) tb) ∧ fV m7 m2) (fun o => ∃ m1 tb, o = some m1 ∧ MT m1 n tb ∧ INV w c n (2 ^ n) tb ∧ (m1.2 = m.2 ∧ ∀ a j, ¬ (a = 145 ∧ j = 6) → a ≠ 147 → a ≠ 148 → m1.1 a j = m.1 a j) ∧ m1.1 145 6 = zb w) (2 ^ n - 1) (fun k y m2 hk hI => Or.inl ?_) (fun y m2 hI F => ?_) (fu_lt (by omega)) ⟨rfl, ⟨tb0 n, M1, INV_0 hn⟩, f1⟩
    · obtain ⟨rfl, ⟨tb, M2, V2⟩, f2⟩ := hI
      have g5 : m2.1 145 5 = Int32.ofNat n := by rw [f2.2 _ _ (by omega) (by omega), F7.2 _ _ (by omega) (by omega) (by omega)]; exact h5
      have g6 : m2.1 145 6 = zb w := by rw [f2.2 _ _ (by omega) (by omega)]; exact k6
      have gC : CT m2 n c := fun a b ha hb hab => by rw [f2.2 _ _ (by omega) (by omega), F7.2 _ _ (by omega) (by omega) (by omega)]; exact hC a b ha hb hab
      obtain ⟨m3, ⟨q1, q2⟩, q3⟩ := v_L72 (G := 1 + k) hn g5 g6 gC hc (by omega) (by omega) M2 V2 (zb w) (Int32.ofNat (2 ^ n))
      refine ⟨_, m3, ⟨rfl, ⟨_, q1, INV_step (G := 1 + k) hn hc (show 1 ≤ 1 + k by omega) (show 1 + k < 2 ^ n by omega) V2⟩, fV_trans f2 q2⟩, fun F => ?_⟩
      rw [f_X0_solve_L57, if_neg (by rw [n_le (by omega) (by omega)]; omega), v_ntz _ (by omega) (by omega), Option.bind_some, q3, show Int32.ofNat (1 + k) + 1 = Int32.ofNat (1 + (k + 1)) from n_add _ 1]
    · obtain ⟨rfl, ⟨tb, M2, V2⟩, f2⟩ := hI
      refine ⟨m2, tb, ?_, M2, by rw [show 1 + (2 ^ n - 1) = 2 ^ n by omega] at V2; exact V2, ⟨f2.1.trans F7.1, fun a j z1 z2 z3 => by rw [f2.2 a j z2 z3, F7.2 a j z1 z2 z3]⟩, by rw [f2.2 _ _ (by omega) (by omega)]; exact k6⟩
      rw [f_X0_solve_L57, if_pos (by rw [n_le (by omega) (by omega)]; omega)]
end
