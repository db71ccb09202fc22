section
/-! What holds cost. -/
def cm (x : Nat) : Int32 := if x = 1000000 then -1 else Int32.ofNat x
def dC (bb : Nat) (L : List pc_K) (ρ : Nat → Int32) (a b : Nat) : Nat := if bb = 1 then (if s_near ρ a b = true then (s_bar L ρ a b).toNat else 1000000) else if s_can L ρ a b = true then (if bb = 0 then s_lost L ρ a b else 1) else 1000000
theorem dC_cm (bb : Nat) (L : List pc_K) (ρ : Nat → Int32) (a b : Nat) : dC bb L ρ a b = dC bb L ρ b a := by
  unfold dC
  rw [s_near_comm, s_bar_comm, s_can_comm, s_lost_comm]
theorem dC_9 {bb : Nat} {L : List pc_K} {ρ : Nat → Int32} (hR : bR ρ) {a b : Nat} (ha : a < 8) (hb : b < 8) : dC bb L ρ a b ≤ 9 ∨ dC bb L ρ a b = 1000000 := by
  unfold dC
  have := s_lost_le (L := L) hR ha hb
  split
  · split
    · left; cases s_bar L ρ a b <;> decide
    · exact Or.inr rfl
  · split
    · left; split <;> omega
    · exact Or.inr rfl
def CT (m : hm_M) (n : Nat) (c : Nat → Nat → Nat) : Prop := ∀ a b, a < n → b < n → a ≠ b → m.1 146 (a * 8 + b) = cm (c a b)
def fD (μ m : hm_M) : Prop := m.2 = μ.2 ∧ ∀ a j, ¬ (a = 107 ∧ j = 2) → a ≠ 108 → a ≠ 109 → ¬ (145 ≤ a ∧ a ≤ 149) → m.1 a j = μ.1 a j
theorem fD_refl (μ : hm_M) : fD μ μ := ⟨rfl, fun _ _ _ _ _ _ => rfl⟩
theorem fD_trans {μ m m1 : hm_M} (h : fD μ m) (g : fD m m1) : fD μ m1 := ⟨g.1.trans h.1, fun a j z1 z2 z3 z4 => (g.2 a j z1 z2 z3 z4).trans (h.2 a j z1 z2 z3 z4)⟩
theorem fj_fD {μ m : hm_M} (h : fj μ m) : fD μ m := ⟨h.1, fun a j z1 z2 z3 _ => h.2 a j z2 z3 z1⟩
theorem fD_w {μ m : hm_M} (h : fD μ m) {a : Nat} (ha : 145 ≤ a ∧ a ≤ 149) (j : Nat) (x : Int32) : fD μ (hm_wI m a j x) := ⟨h.1, fun b k z1 z2 z3 z4 => by rw [wI_ne (by omega)]; exact h.2 b k z1 z2 z3 z4⟩
theorem fD_fs {μ m : hm_M} (h : fD μ m) : fs μ m := ⟨congrArg (fun z => z.2) h.1, fun a j z => h.2 a j (by unfold scr at z; omega) (by unfold scr at z; omega) (by unfold scr at z; omega) (by unfold scr at z; omega)⟩
variable {μ : hm_M} {ρ : Nat → Int32} {law : Option Nat} {L : List pc_K} {bb n : Nat}
theorem v_costBy {a b : Nat} (ha : a < 8) (hb : b < 8) (hab : a ≠ b) (hbb : bb < 3) (hR : bR ρ) (hJ : VJ μ 65 ρ) (hL : LJ μ law L) (hW : hm_ln μ 109 = 8) : ∃ m, f_X0_costBy 65 law (Int32.ofNat bb) (Int32.ofNat a) (Int32.ofNat b) μ = some (cm (dC bb L ρ a b), m) ∧ fj μ m := by
  have hlo := s_lost_le (L := L) hR ha hb
  unfold f_X0_costBy
  rw [j9_near ha hb hR hJ, Option.bind_some]
  cases hN : s_near ρ a b with
  | false =>
    rw [if_pos (show zb false = 0 from rfl)]
    refine ⟨μ, ?_, fj_refl μ⟩
    have : dC bb L ρ a b = 1000000 := by
      unfold dC s_can
      rw [hN]
      simp
    rw [this]
    rfl
  | true =>
    rw [if_neg (show ¬ zb true = 0 by decide)]
    obtain ⟨m1, f1, e1⟩ := j9_bar ha hb hab hR hJ (by unfold vO; omega) hL hW
    rw [e1, b2_some]
    by_cases h1 : bb = 1
    · rw [if_pos (show Int32.ofNat bb = 1 by rw [h1]; rfl)]
      have e : dC bb L ρ a b = (s_bar L ρ a b).toNat := by unfold dC; rw [if_pos h1, if_pos hN]
      rw [e]
      cases s_bar L ρ a b with
      | false => exact ⟨m1, rfl, f1⟩
      | true => exact ⟨m1, rfl, f1⟩
    · rw [if_neg (show ¬ Int32.ofNat bb = 1 by rw [show (1 : Int32) = Int32.ofNat 1 from rfl, n_eq (by omega) (by omega)]; exact h1)]
      cases hB : s_bar L ρ a b with
      | true =>
        rw [if_neg (show ¬ zb true = 0 by decide)]
        refine ⟨m1, ?_, f1⟩
        have : dC bb L ρ a b = 1000000 := by
          unfold dC s_can
          rw [hB, if_neg h1]
          simp
        rw [this]
        rfl
      | false =>
        rw [if_pos (show zb false = 0 from rfl)]
        have hc : s_can L ρ a b = true := by unfold s_can; rw [hN, hB]; rfl
        by_cases h0 : bb = 0
        · rw [if_pos (show Int32.ofNat bb = 0 by rw [h0]; rfl)]
          obtain ⟨m2, f2, e2⟩ := j9_lost (μ := m1) ha hb hab hR (hJ.fj (by unfold vO; omega) f1) (by unfold vO; omega) (hL.fj f1) ((congrArg (fun z => z.2.2.2.2 109) f1.1).trans hW)
          rw [e2, b2_some]
          refine ⟨m2, ?_, fj_trans f1 f2⟩
          have : dC bb L ρ a b = s_lost L ρ a b := by unfold dC; rw [if_neg h1, if_pos hc, if_pos h0]
          rw [this]
          unfold cm
          rw [if_neg (by omega)]
        · rw [if_neg (show ¬ Int32.ofNat bb = 0 by rw [show (0 : Int32) = Int32.ofNat 0 from rfl, n_eq (by omega) (by omega)]; exact h0)]
          refine ⟨m1, ?_, f1⟩
          have : dC bb L ρ a b = 1 := by unfold dC; rw [if_neg h1, if_pos hc, if_neg h0]
          rw [this]
          rfl
theorem v_setCost {m : hm_M} {a b : Nat} (ha : a < 8) (hb : b < 8) (x : Int32) : f_X0_setCost (Int32.ofNat a) (Int32.ofNat b) x m = some (hm_wI (hm_wI m 146 (a * 8 + b) x) 146 (b * 8 + a) x) := by
  unfold f_X0_setCost
  rw [show (8 : Int32) = Int32.ofNat 8 from rfl, n_mul, n_add, sd_n (by omega) (by decide), Option.bind_some, n_mul, n_add, sd_n (by omega) (by decide), Option.bind_some]
/-- drawn so far -/
def CP (m : hm_M) (n : Nat) (c : Nat → Nat → Nat) (A B : Nat) : Prop := ∀ a b, a < b → b < n → (a < A ∨ (a = A ∧ b < B)) → m.1 146 (a * 8 + b) = cm (c a b) ∧ m.1 146 (b * 8 + a) = cm (c a b)
theorem v_draw (hbb : bb < 3) (hn : n ≤ 8) (h0 : μ.1 65 0 = Int32.ofNat n) (hR : bR ρ) (hJ : VJ μ 65 ρ) (hL : LJ μ law L) (hW : hm_ln μ 109 = 8) : ∃ m, f_X0_draw 65 law (Int32.ofNat bb) μ = some m ∧ fD μ m ∧ m.1 145 5 = Int32.ofNat n ∧ CT m n (dC bb L ρ) := by
  unfold f_X0_draw
  rw [pI_some, Option.bind_some, h0]
  -- one row
  have inner : ∀ A, A < n → ∀ m, fD μ m → m.1 145 5 = Int32.ofNat n → CP m n (dC bb L ρ) A (A + 1) → ∃ m1, (fD μ m1 ∧ m1.1 145 5 = Int32.ofNat n ∧ CP m1 n (dC bb L ρ) (A + 1) (A + 1 + 1)) ∧ ∀ c11 e66 e60, f_X0_draw_L26 65 law (Int32.ofNat bb) (Int32.ofNat A) c11 e66 e60 hm_fu (Int32.ofNat (A + 1)) m = e60 m1 := by
    intro A hA m fm0 s0 cp0
    have lp : ∃ (y' : Int32) (m1 : hm_M), (y' = Int32.ofNat (A + 1 + (n - (A + 1))) ∧ fD μ m1 ∧ m1.1 145 5 = Int32.ofNat n ∧ CP m1 n (dC bb L ρ) A (A + 1 + (n - (A + 1)))) ∧ ∀ κ : (Int32 → hm_M → Option hm_M) × (hm_M → Option hm_M) × (hm_M → Option hm_M), f_X0_draw_L26 65 law (Int32.ofNat bb) (Int32.ofNat A) κ.1 κ.2.1 κ.2.2 hm_fu (Int32.ofNat (A + 1)) m = κ.2.2 m1 := by
      refine lu2 (K := (Int32 → hm_M → Option hm_M) × (hm_M → Option hm_M) × (hm_M → Option hm_M)) (L := fun κ => f_X0_draw_L26 65 law (Int32.ofNat bb) (Int32.ofNat A) κ.1 κ.2.1 κ.2.2) (fun k y m1 => y = Int32.ofNat (A + 1 + k) ∧ fD μ m1 ∧ m1.1 145 5 = Int32.ofNat n ∧ CP m1 n (dC bb L ρ) A (A + 1 + k)) (fun κ _ m1 => κ.2.2 m1) (n - (A + 1)) (fun k y m1 hk hI => ?_) (fun y m1 hI κ F => ?_) (fuel := hm_fu) (fu_lt (by omega)) (a := Int32.ofNat (A + 1)) (b := m) ⟨rfl, fm0, s0, cp0⟩
      · obtain ⟨rfl, f, s, cp⟩ := hI
        obtain ⟨m2, q1, q2⟩ := v_costBy (μ := m1) (L := L) (a := A) (b := A + 1 + k) (by omega) (by omega) (by omega) hbb hR (by
          obtain ⟨j1, j2, j3⟩ := hJ
          refine ⟨fun i hi => ?_, by rw [f.2 _ _ (by omega) (by omega) (by omega) (by omega)]; exact j2, by rw [f.2 _ _ (by omega) (by omega) (by omega) (by omega)]; exact j3⟩
          rw [f.2 _ _ (by omega) (by omega) (by omega) (by omega), f.2 _ _ (by omega) (by omega) (by omega) (by omega), f.2 _ _ (by omega) (by omega) (by omega) (by omega)]
          exact j1 i hi) (LJ_g hL (fun a j z => f.2 a j (by omega) (by omega) (by omega) (by omega)) (congrArg (fun z => z.2.2.2.2) f.1)) ((congrArg (fun z => z.2.2.2.2 109) f.1).trans hW)
        refine ⟨_, hm_wI (hm_wI m2 146 (A * 8 + (A + 1 + k)) (cm (dC bb L ρ A (A + 1 + k)))) 146 ((A + 1 + k) * 8 + A) (cm (dC bb L ρ A (A + 1 + k))), ⟨rfl, fD_w (fD_w (fD_trans f (fj_fD q2)) (by omega) _ _) (by omega) _ _, by rw [wI_ne (by omega), wI_ne (by omega), q2.2 _ _ (by omega) (by omega) (by omega)]; exact s, fun a b h1 h2 h3 => ?_⟩, fun κ F => ?_⟩
        · by_cases z : a = A ∧ b = A + 1 + k
          · rw [z.1, z.2, wI_ne (by omega), wI_at, wI_at]
            exact ⟨rfl, rfl⟩
          · rw [wI_ne (by omega), wI_ne (by omega), wI_ne (by omega), wI_ne (by omega), q2.2 _ _ (by omega) (by omega) (by omega), q2.2 _ _ (by omega) (by omega) (by omega)]
            exact cp a b h1 h2 (by omega)
        · show f_X0_draw_L26 _ _ _ _ _ _ _ _ _ _ = _
          rw [f_X0_draw_L26, s, if_neg (by rw [n_le (by omega) (by omega)]; omega), q1, b2_some, v_setCost (by omega) (by omega), Option.bind_some, show Int32.ofNat (A + 1 + k) + 1 = Int32.ofNat (A + 1 + (k + 1)) from n_add _ 1]
      · obtain ⟨rfl, f, s, cp⟩ := hI
        show f_X0_draw_L26 _ _ _ _ _ _ _ _ _ _ = _
        rw [f_X0_draw_L26, s, if_pos (by rw [n_le (by omega) (by omega)]; omega)]
    obtain ⟨y', m1, ⟨-, hI1, hI2, hI3⟩, he⟩ := lp
    refine ⟨m1, ⟨hI1, hI2, fun a b h1 h2 h3 => ?_⟩, fun c11 e66 e60 => he (c11, e66, e60)⟩
    exact hI3 a b h1 h2 (by omega)
  refine lo2 (L := f_X0_draw_L11 65 law (Int32.ofNat bb) (fun m => some m)) (fun k y m => y = Int32.ofNat k ∧ fD μ m ∧ m.1 145 5 = Int32.ofNat n ∧ CP m n (dC bb L ρ) k (k + 1)) (fun o => ∃ m, o = some m ∧ fD μ m ∧ m.1 145 5 = Int32.ofNat n ∧ CT m n (dC bb L ρ)) n (fun k y m hk hI => Or.inl ?_) (fun y m hI F => ?_) (fu_lt (by omega)) ⟨rfl, fD_w (fD_refl μ) (by omega) _ _, wI_at _ _ _ _, fun a b h1 h2 h3 => by omega⟩
  · obtain ⟨rfl, f, s, cp⟩ := hI
    obtain ⟨m1, h1, h2⟩ := inner k hk m f s cp
    refine ⟨_, m1, ⟨rfl, h1⟩, fun F => ?_⟩
    rw [f_X0_draw_L11, s, if_neg (by rw [n_le (by omega) (by omega)]; omega), show Int32.ofNat k + 1 = Int32.ofNat (k + 1) from n_add k 1, h2]
  · obtain ⟨rfl, f, s, cp⟩ := hI
    refine ⟨m, ?_, f, s, fun a b ha hb hab => ?_⟩
    · rw [f_X0_draw_L11, s, if_pos (by rw [n_le (by omega) (by omega)]; omega)]
    · rcases Nat.lt_or_ge a b with z | z
      · exact (cp a b z hb (by omega)).1
      · rw [dC_cm]
        exact (cp b a (by omega) ha (by omega)).2
end
