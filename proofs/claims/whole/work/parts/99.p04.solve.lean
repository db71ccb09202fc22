section
/-! The table of the least ways, as the component fills it. -/
abbrev tbl : Type := Nat → Nat → Nat × Nat
def of2 (q : Nat × Nat) (s x : Nat) : Nat × Nat := if s < q.1 then (s, x) else if s = q.1 then (q.1, q.2 + x) else q
def MT (m : hm_M) (n : Nat) (tb : tbl) : Prop := ∀ S l, S < 2 ^ n → l < n → m.1 147 (S * 8 + l) = Int32.ofNat (tb S l).1 ∧ m.1 148 (S * 8 + l) = Int32.ofNat (tb S l).2 ∧ (tb S l).1 ≤ 1000000
def setT (tb : tbl) (S l : Nat) (q : Nat × Nat) : tbl := fun S' l' => if S' = S ∧ l' = l then q else tb S' l'
def fV (m m1 : hm_M) : Prop := m1.2 = m.2 ∧ ∀ a j, a ≠ 147 → a ≠ 148 → m1.1 a j = m.1 a j
theorem fV_trans {m m1 m2 : hm_M} (h : fV m m1) (g : fV m1 m2) : fV m m2 := ⟨g.1.trans h.1, fun a j z1 z2 => (g.2 a j z1 z2).trans (h.2 a j z1 z2)⟩
theorem fV_refl (m : hm_M) : fV m m := ⟨rfl, fun _ _ _ _ => rfl⟩
theorem fV_w {m m1 : hm_M} (h : fV m m1) {a : Nat} (ha : a = 147 ∨ a = 148) (j : Nat) (x : Int32) : fV m (hm_wI m1 a j x) := ⟨h.1, fun b k z1 z2 => by rw [wI_ne (by omega)]; exact h.2 b k z1 z2⟩
theorem p256 {n : Nat} (h : n ≤ 8) : 2 ^ n ≤ 256 := Nat.pow_le_pow_right (by decide) h
variable {m : hm_M} {n : Nat} {tb : tbl} {w : Bool} {c : Nat → Nat → Nat}
theorem MT.cg {tb1 : tbl} (h : MT m n tb) (e : ∀ S l, S < 2 ^ n → l < n → tb1 S l = tb S l) : MT m n tb1 := fun S l hS hl => by rw [e S l hS hl]; exact h S l hS hl
theorem v_offer {S l s x : Nat} (hn : n ≤ 8) (h : MT m n tb) (hS : S < 2 ^ n) (hl : l < n) (hs : s ≤ 1000000) : ∃ m1, f_X0_offer (Int32.ofNat S) (Int32.ofNat l) (Int32.ofNat s) (Int32.ofNat x) m = some m1 ∧ MT m1 n (setT tb S l (of2 (tb S l) s x)) ∧ fV m m1 := by
  have h256 := p256 hn
  obtain ⟨h1, h2, h3⟩ := h S l hS hl
  unfold f_X0_offer
  rw [show (8 : Int32) = Int32.ofNat 8 from rfl, n_mul, n_add, ld_n (by omega) (by decide), Option.bind_some, h1]
  unfold of2
  by_cases z : s < (tb S l).1
  · rw [if_neg (by rw [n_le (by omega) (by omega)]; omega), sd_n (by omega) (by decide), Option.bind_some, sd_n (by omega) (by decide), Option.bind_some, if_pos z]
    refine ⟨_, rfl, fun S' l' hS' hl' => ?_, fV_w (fV_w (fV_refl m) (by omega) _ _) (by omega) _ _⟩
    unfold setT
    by_cases y : S' = S ∧ l' = l
    · rw [if_pos y, y.1, y.2, wI_ne (by omega), wI_at, wI_at]
      exact ⟨rfl, rfl, hs⟩
    · rw [if_neg y, wI_ne (by omega), wI_ne (by omega), wI_ne (by omega), wI_ne (by omega)]
      exact h S' l' hS' hl'
  · rw [if_pos (by rw [n_le (by omega) (by omega)]; omega), Option.bind_some, if_neg z]
    by_cases y1 : s = (tb S l).1
    · rw [if_pos (by rw [y1]), ld_n (by omega) (by decide), Option.bind_some, h2, n_add, sd_n (by omega) (by decide), Option.bind_some, if_pos y1]
      refine ⟨_, rfl, fun S' l' hS' hl' => ?_, fV_w (fV_refl m) (by omega) _ _⟩
      unfold setT
      by_cases y : S' = S ∧ l' = l
      · rw [if_pos y, y.1, y.2, wI_ne (by omega), wI_at]
        exact ⟨h1, rfl, h3⟩
      · rw [if_neg y, wI_ne (by omega), wI_ne (by omega)]
        exact h S' l' hS' hl'
    · rw [if_neg (by rw [n_eq (by omega) (by omega)]; exact y1), if_neg y1]
      refine ⟨m, rfl, h.cg fun S' l' _ _ => ?_, fV_refl m⟩
      unfold setT
      split
      · rename_i y
        rw [y.1, y.2]
      · rfl
theorem v_tog {a b : Nat} (h6 : m.1 145 6 = zb w) (ha : a + b ≤ 1000000) : f_X0_together (Int32.ofNat a) (Int32.ofNat b) m = some (Int32.ofNat (rop w a b)) := by
  unfold f_X0_together rop
  rw [h6]
  cases w
  · rw [if_pos (show zb false = 0 from rfl), n_add]
    simp only [Bool.false_eq_true, if_false]
    rw [Nat.min_eq_right ha]
  · rw [if_neg (show ¬ zb true = 0 by decide)]
    simp only [if_true]
    by_cases z : a < b
    · rw [if_pos (by rw [n_lt (by omega) (by omega)]; exact z), Nat.max_eq_right (by omega)]
    · rw [if_neg (by rw [n_lt (by omega) (by omega)]; exact z), Nat.max_eq_left (by omega)]
def c9 (c : Nat → Nat → Nat) : Prop := ∀ a b, a < 8 → b < 8 → c a b ≤ 9 ∨ c a b = 1000000
theorem cm_n {x : Nat} (h : x ≤ 9 ∨ x = 1000000) : (cm x = -1) = (x = 1000000) := by
  unfold cm
  by_cases z : x = 1000000
  · rw [if_pos z]; simp [z]
  · rw [if_neg z]
    have : x < 10 := by omega
    have key : ∀ x, x < 10 → ¬ Int32.ofNat x = -1 := by decide +kernel
    simp [z, key x this]
def gf (w : Bool) (c : Nat → Nat → Nat) (tb : tbl) (G low p X : Nat) : tbl := fun S l => if S = G ||| 2 ^ l ∧ low < l ∧ l < X ∧ G.testBit l = false ∧ c p l < 1000000 then of2 (tb S l) (rop w (tb G p).1 (c p l)) (tb G p).2 else tb S l
theorem or_self {G l : Nat} (h : G.testBit l = true) : G ||| 2 ^ l = G := Nat.eq_of_testBit_eq fun x => by
  rw [bit_or]
  by_cases z : x = l
  · subst z; rw [h]; rfl
  · simp [z]
theorem or_ne {G l : Nat} (h : G.testBit l = false) : G ≠ G ||| 2 ^ l := fun e => by
  have := congrArg (fun q => q.testBit l) e
  simp only [bit_or] at this
  rw [h] at this
  simp at this
theorem or_lt {G l n : Nat} (hG : G < 2 ^ n) (hl : l < n) : G ||| 2 ^ l < 2 ^ n := Nat.or_lt_two_pow hG (Nat.pow_lt_pow_right (by decide) hl)
theorem gf_G {G low p X q : Nat} : gf w c tb G low p X G q = tb G q := by
  unfold gf
  refine if_neg ?_
  rintro ⟨h, -, -, h4, -⟩
  exact or_ne h4 h
theorem v_goF {G low p : Nat} (hn : n ≤ 8) (h5 : m.1 145 5 = Int32.ofNat n) (h6 : m.1 145 6 = zb w) (hC : CT m n c) (hc : c9 c) (hM : MT m n tb) (hG : G < 2 ^ n) (hp : p < n) (hGp : G.testBit p = true) (hlow : low < n) (hb : (tb G p).1 ≤ 2295) : ∃ m1, f_X0_goFurther (Int32.ofNat G) (Int32.ofNat low) (Int32.ofNat p) m = some m1 ∧ MT m1 n (gf w c tb G low p n) ∧ fV m m1 := by
  have h256 := p256 hn
  obtain ⟨g1, g2, g3⟩ := hM G p hG hp
  unfold f_X0_goFurther f_X0_leastTo
  rw [show (8 : Int32) = Int32.ofNat 8 from rfl, n_mul, n_add, ld_n (by omega) (by decide), Option.bind_some, Option.bind_some, ld_n (by omega) (by decide), Option.bind_some, g1, g2, show (1 : Int32) = Int32.ofNat 1 from rfl, n_add]
  refine lo2 (L := f_X0_goFurther_L26 (Int32.ofNat G) (Int32.ofNat low) (Int32.ofNat p) (Int32.ofNat (tb G p).1) (Int32.ofNat (tb G p).2) (fun m => some m)) (fun k y m1 => y = Int32.ofNat (low + 1 + k) ∧ MT m1 n (gf w c tb G low p (low + 1 + k)) ∧ fV m m1) (fun o => ∃ m1, o = some m1 ∧ MT m1 n (gf w c tb G low p n) ∧ fV m m1) (n - (low + 1)) (fun k y m1 hk hI => Or.inl ?_) (fun y m1 hI F => ?_) (fu_lt (by omega)) ⟨rfl, hM.cg fun S l _ _ => ?_, fV_refl m⟩
  · obtain ⟨rfl, M1, f1⟩ := hI
    have e5 : m1.1 145 5 = Int32.ofNat n := by rw [f1.2 _ _ (by omega) (by omega)]; exact h5
    have e6 : m1.1 145 6 = zb w := by rw [f1.2 _ _ (by omega) (by omega)]; exact h6
    have X8 : low + 1 + k < 8 := by omega
    have skip : (∀ S l, S < 2 ^ n → l < n → gf w c tb G low p (low + 1 + (k + 1)) S l = gf w c tb G low p (low + 1 + k) S l) → (∀ F, f_X0_goFurther_L26 (Int32.ofNat G) (Int32.ofNat low) (Int32.ofNat p) (Int32.ofNat (tb G p).1) (Int32.ofNat (tb G p).2) (fun m => some m) (F + 1) (Int32.ofNat (low + 1 + k)) m1 = f_X0_goFurther_L26 (Int32.ofNat G) (Int32.ofNat low) (Int32.ofNat p) (Int32.ofNat (tb G p).1) (Int32.ofNat (tb G p).2) (fun m => some m) F (Int32.ofNat (low + 1 + (k + 1))) m1) → ∃ a' b', (a' = Int32.ofNat (low + 1 + (k + 1)) ∧ MT b' n (gf w c tb G low p (low + 1 + (k + 1))) ∧ fV m b') ∧ ∀ F, f_X0_goFurther_L26 (Int32.ofNat G) (Int32.ofNat low) (Int32.ofNat p) (Int32.ofNat (tb G p).1) (Int32.ofNat (tb G p).2) (fun m => some m) (F + 1) (Int32.ofNat (low + 1 + k)) m1 = f_X0_goFurther_L26 (Int32.ofNat G) (Int32.ofNat low) (Int32.ofNat p) (Int32.ofNat (tb G p).1) (Int32.ofNat (tb G p).2) (fun m => some m) F a' b' := fun h1 h2 => ⟨_, m1, ⟨rfl, M1.cg h1, f1⟩, h2⟩
    have st : ∀ F, f_X0_goFurther_L26 (Int32.ofNat G) (Int32.ofNat low) (Int32.ofNat p) (Int32.ofNat (tb G p).1) (Int32.ofNat (tb G p).2) (fun m => some m) (F + 1) (Int32.ofNat (low + 1 + k)) m1 = (if zb (G.testBit (low + 1 + k)) = 0 then (if m1.1 146 (p * 8 + (low + 1 + k)) = (-1 : Int32) then f_X0_goFurther_L26 (Int32.ofNat G) (Int32.ofNat low) (Int32.ofNat p) (Int32.ofNat (tb G p).1) (Int32.ofNat (tb G p).2) (fun m => some m) F (Int32.ofNat (low + 1 + (k + 1))) m1 else Option.bind (f_X0_together (Int32.ofNat (tb G p).1) (m1.1 146 (p * 8 + (low + 1 + k))) m1) fun x5 => Option.bind (f_X0_offer (Int32.ofNat (G ||| 2 ^ (low + 1 + k))) (Int32.ofNat (low + 1 + k)) x5 (Int32.ofNat (tb G p).2) m1) fun μ7 => f_X0_goFurther_L26 (Int32.ofNat G) (Int32.ofNat low) (Int32.ofNat p) (Int32.ofNat (tb G p).1) (Int32.ofNat (tb G p).2) (fun m => some m) F (Int32.ofNat (low + 1 + (k + 1))) μ7) else f_X0_goFurther_L26 (Int32.ofNat G) (Int32.ofNat low) (Int32.ofNat p) (Int32.ofNat (tb G p).1) (Int32.ofNat (tb G p).2) (fun m => some m) F (Int32.ofNat (low + 1 + (k + 1))) m1) := fun F => by
      rw [f_X0_goFurther_L26, e5, if_neg (by rw [n_le (by omega) (by omega)]; omega)]
      unfold f_X0_costBetween f_X0_goFurther_J81
      rw [show (8 : Int32) = Int32.ofNat 8 from rfl, n_mul, n_add, ld_n (by omega) (by decide), Option.bind_some, Option.bind_some, n_bit G (by omega) _ X8, n_shl _ (by omega), n_or (by omega) (p2_lt X8), show Int32.ofNat (low + 1 + k) + 1 = Int32.ofNat (low + 1 + (k + 1)) from n_add _ 1]
    cases hb2 : G.testBit (low + 1 + k) with
    | true =>
      refine skip (fun S l hS hl => ?_) fun F => ?_
      · unfold gf
        by_cases y : S = G ||| 2 ^ l ∧ low < l ∧ l < low + 1 + k ∧ G.testBit l = false ∧ c p l < 1000000
        · rw [if_pos y, if_pos ⟨y.1, y.2.1, by omega, y.2.2.2⟩]
        · rw [if_neg y, if_neg]
          rintro ⟨z1, z2, z3, z4, z5⟩
          by_cases z : l = low + 1 + k
          · rw [z, hb2] at z4; cases z4
          · exact y ⟨z1, z2, by omega, z4, z5⟩
      · rw [st, hb2, if_neg (show ¬ zb true = 0 by decide)]
    | false =>
      have ne : p ≠ low + 1 + k := fun z => by rw [z, hb2] at hGp; cases hGp
      have ec : m1.1 146 (p * 8 + (low + 1 + k)) = cm (c p (low + 1 + k)) := by rw [f1.2 _ _ (by omega) (by omega)]; exact hC p _ hp (by omega) ne
      have hc1 := hc p (low + 1 + k) (by omega) X8
      by_cases hI : c p (low + 1 + k) = 1000000
      · refine skip (fun S l hS hl => ?_) fun F => ?_
        · unfold gf
          by_cases y : S = G ||| 2 ^ l ∧ low < l ∧ l < low + 1 + k ∧ G.testBit l = false ∧ c p l < 1000000
          · rw [if_pos y, if_pos ⟨y.1, y.2.1, by omega, y.2.2.2⟩]
          · rw [if_neg y, if_neg]
            rintro ⟨z1, z2, z3, z4, z5⟩
            by_cases z : l = low + 1 + k
            · rw [z] at z5; omega
            · exact y ⟨z1, z2, by omega, z4, z5⟩
        · rw [st, hb2, if_pos (show zb false = 0 from rfl), ec, if_pos (by rw [cm_n hc1]; exact hI)]
      · obtain ⟨m2, o1, o2, o3⟩ := v_offer (S := G ||| 2 ^ (low + 1 + k)) (l := low + 1 + k) (s := rop w (tb G p).1 (c p (low + 1 + k))) (x := (tb G p).2) hn M1 (or_lt hG (by omega)) (by omega) (rop_le (by omega) (by omega))
        refine ⟨_, m2, ⟨rfl, o2.cg fun S l hS hl => ?_, fV_trans f1 o3⟩, fun F => ?_⟩
        · unfold setT
          by_cases y : S = G ||| 2 ^ (low + 1 + k) ∧ l = low + 1 + k
          · rw [if_pos y, y.1, y.2]
            unfold gf
            rw [if_pos ⟨rfl, by omega, by omega, hb2, by omega⟩, if_neg (by omega)]
          · rw [if_neg y]
            unfold gf
            by_cases y2 : S = G ||| 2 ^ l ∧ low < l ∧ l < low + 1 + k ∧ G.testBit l = false ∧ c p l < 1000000
            · rw [if_pos y2, if_pos ⟨y2.1, y2.2.1, by omega, y2.2.2.2⟩]
            · rw [if_neg y2, if_neg]
              rintro ⟨z1, z2, z3, z4, z5⟩
              by_cases z : l = low + 1 + k
              · exact y ⟨by rw [z1, z], z⟩
              · exact y2 ⟨z1, z2, by omega, z4, z5⟩
        · rw [st, hb2, if_pos (show zb false = 0 from rfl), ec, if_neg (by rw [cm_n hc1]; exact hI), show cm (c p (low + 1 + k)) = Int32.ofNat (c p (low + 1 + k)) from if_neg hI, v_tog e6 (by omega), Option.bind_some, o1, Option.bind_some]
  · obtain ⟨rfl, M1, f1⟩ := hI
    refine ⟨m1, ?_, by rw [show low + 1 + (n - (low + 1)) = n by omega] at M1; exact M1, f1⟩
    rw [f_X0_goFurther_L26, show m1.1 145 5 = Int32.ofNat n by rw [f1.2 _ _ (by omega) (by omega)]; exact h5, if_pos (by rw [n_le (by omega) (by omega)]; omega)]
  · unfold gf
    rw [if_neg]
    rintro ⟨-, z2, z3, -⟩
    omega
end
