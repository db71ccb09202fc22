section
/-! The reference works a text out. -/
def zb (b : Bool) : Int32 := if b = true then 1 else 0
theorem zb_0 (b : Bool) : (zb b = 0) = (b = false) := by cases b <;> decide
theorem zb_1 (b : Bool) : (zb b = 1) = (b = true) := by cases b <;> decide
theorem zb_pZ (μ : hm_M) (a k : Nat) (b : Bool) : hm_pZ μ a k (zb b) = some (hm_wI μ a k (zb b)) := by cases b <;> rfl
theorem zb_rz (b : Bool) : hm_rz (zb b) = some (zb b) := by cases b <;> rfl
theorem wI_wI (μ : hm_M) (a j : Nat) (x y : Int32) : hm_wI (hm_wI μ a j x) a j y = hm_wI μ a j y := by
  have e : (hm_wI (hm_wI μ a j x) a j y).1 = (hm_wI μ a j y).1 := by
    funext b k
    by_cases h : b = a ∧ k = j
    · rw [wI_eq h.1 h.2, wI_eq h.1 h.2]
    · rw [wI_ne h, wI_ne h, wI_ne h]
  exact Prod.ext e rfl
theorem wI_cm (μ : hm_M) {a j b k : Nat} (x y : Int32) (hne : ¬ (a = b ∧ j = k)) : hm_wI (hm_wI μ a j x) b k y = hm_wI (hm_wI μ b k y) a j x := by
  have e : (hm_wI (hm_wI μ a j x) b k y).1 = (hm_wI (hm_wI μ b k y) a j x).1 := by
    funext c i
    by_cases h : c = b ∧ i = k
    · rw [wI_eq h.1 h.2, wI_ne (by omega), wI_eq h.1 h.2]
    · rw [wI_ne h]
      by_cases g : c = a ∧ i = j
      · rw [wI_eq g.1 g.2, wI_eq g.1 g.2]
      · rw [wI_ne g, wI_ne g, wI_ne h]
  exact Prod.ext e rfl
/-- the reading place and the mark of what is broken -/
def es (μ : hm_M) (g i : Nat) (β : Bool) : hm_M := hm_wI (hm_wI μ 179 22 (Int32.ofNat (g + i))) 179 24 (zb β)
theorem es_go (μ : hm_M) (g i j : Nat) (β : Bool) : hm_wI (es μ g i β) 179 22 (Int32.ofNat (g + j)) = es μ g j β := by
  unfold es
  rw [wI_cm _ _ _ (by omega), wI_wI]
theorem es_br (μ : hm_M) (g i : Nat) (β γ : Bool) : hm_wI (es μ g i β) 179 24 (zb γ) = es μ g i γ := by
  unfold es
  rw [wI_wI]
theorem es_22 (μ : hm_M) (g i : Nat) (β : Bool) : (es μ g i β).1 179 22 = Int32.ofNat (g + i) := by
  unfold es
  rw [wI_ne (by omega), wI_at]
theorem es_24 (μ : hm_M) (g i : Nat) (β : Bool) : (es μ g i β).1 179 24 = zb β := by
  unfold es
  rw [wI_at]
theorem es_ne {μ : hm_M} {g i a j : Nat} {β : Bool} (h : ¬ (a = 179 ∧ (j = 22 ∨ j = 24))) : (es μ g i β).1 a j = μ.1 a j := by
  unfold es
  rw [wI_ne (by omega), wI_ne (by omega)]
def TKs (μ : hm_M) (g N : Nat) (tk vl : Nat → Nat) (ord : Bool) (e : Nat → Int32) : Prop := (N ≤ 400 ∧ g ≤ 2400) ∧ (∀ k, k < N → μ.1 181 (65 + g + k) = Int32.ofNat (tk k) ∧ μ.1 181 (2865 + g + k) = Int32.ofNat (vl k) ∧ tk k < 400 ∧ vl k < 100000000) ∧ (∀ k, N ≤ k → tk k = 0) ∧ μ.1 179 23 = Int32.ofNat (g + N) ∧ μ.1 179 25 = zb ord ∧ (ord = false → ∀ c, 8 ≤ c → c ≤ 15 → μ.1 191 (c - 8) = e (pc_word false c)) ∧ (ord = true → ∀ m : hm_M, (∀ a j, ¬ (a = 179 ∧ (j = 22 ∨ j = 24)) → m.1 a j = μ.1 a j) → (∀ c, 15 ≤ c → c ≤ 19 → ∀ k, f_X10_orderValue (Int32.ofNat c) k m = some (e (c - 15))) ∧ ∀ v, v ≤ 7 → f_X10_orderValue 20 (Int32.ofNat v) m = some (e (5 + v)) ∧ f_X10_orderValue 21 (Int32.ofNat v) m = some (e (13 + v)))
section
variable {μ : hm_M} {g N : Nat} {tk vl : Nat → Nat} {ord : Bool} {e : Nat → Int32}
theorem tk_N (h : TKs μ g N tk vl ord e) {i : Nat} (z : tk i ≠ 0) : i < N := by
  rcases Nat.lt_or_ge i N with q | q
  · exact q
  · exact absurd (h.2.2.1 i q) z
theorem ev_code (h : TKs μ g N tk vl ord e) {i : Nat} (hi : i ≤ 1000) (β : Bool) : f_X10_codeAt ((es μ g i β).1 179 22) (es μ g i β) = some (Int32.ofNat (tk i)) := by
  obtain ⟨⟨h1, h2⟩, h3, h4, h5, -⟩ := h
  unfold f_X10_codeAt
  rw [es_22, es_ne (by omega), h5]
  by_cases z : g + N ≤ g + i
  · rw [if_pos (by rw [n_le (by omega) (by omega)]; exact z), h4 i (by omega)]
    rfl
  · rw [if_neg (by rw [n_le (by omega) (by omega)]; exact z), n_lit, n_add, ld_n (by omega) (by decide), Option.bind_some, es_ne (by omega), ← Nat.add_assoc, (h3 i (by omega)).1]
theorem tk_lt (h : TKs μ g N tk vl ord e) (i : Nat) : tk i < 400 := by
  by_cases z : i < N
  · exact (h.2.1 i z).2.2.1
  · rw [h.2.2.1 i (by omega)]; omega
theorem ev_pass (h : TKs μ g N tk vl ord e) {i c : Nat} (hi : i ≤ 1000) (hc : c < 400) (β : Bool) : f_X10_passes0 (Int32.ofNat c) (es μ g i β) = some (if tk i = c then (1, es μ g (i + 1) β) else (0, es μ g i β)) := by
  unfold f_X10_passes0
  have := tk_lt h i
  rw [ev_code h hi, Option.bind_some]
  by_cases z : tk i = c
  · rw [if_pos (by rw [z]), if_pos z]
    unfold f_X10_passes0_J17
    rw [if_neg (by decide)]
    show some ((1 : Int32), hm_wI (es μ g i β) 179 22 ((es μ g i β).1 179 22 + 1)) = _
    rw [es_22, n_lit, n_add, Nat.add_assoc, es_go]
  · rw [if_neg (by rw [n_eq (by omega) (by omega)]; exact z), if_neg z]
    rfl
theorem ev_step (i : Nat) (β : Bool) : hm_pI (es μ g i β) 179 22 ((es μ g i β).1 179 22 + 1) = some (es μ g (i + 1) β) := by
  rw [pI_some, es_22, n_lit, n_add, Nat.add_assoc, es_go]
/-- a sum, a test from one token to another -/
def rS (live β0 : Bool) (s : Option Int32) (v : Int64) (β : Bool) : Prop := β = (β0 || (live && s.isNone)) ∧ (live = true → β0 = false → ∀ x, s = some x → v = x.toInt64)
def evS (μ : hm_M) (g : Nat) (F : Int32 → hm_M → Option (Int64 × hm_M)) (i j : Nat) (s : Option Int32) : Prop := ∀ live β0, ∃ v β, F (zb live) (es μ g i β0) = some (v, es μ g j β) ∧ rS live β0 s v β
def rB (live β0 : Bool) (s : Option Int32) (v : Bool) (β : Bool) : Prop := β = (β0 || (live && s.isNone)) ∧ (live = true → β0 = false → ∀ x, s = some x → x = zb v)
def evB (μ : hm_M) (g : Nat) (F : Int32 → hm_M → Option (Int32 × hm_M)) (i j : Nat) (s : Option Int32) : Prop := ∀ live β0, ∃ v β, F (zb live) (es μ g i β0) = some (zb v, es μ g j β) ∧ rB live β0 s v β
def outB (x : Int64) : Bool := decide ((1000000000 : Int64) < x) || decide (x < (-1000000000 : Int64))
theorem ev_bnd (x : Int64) (live β : Bool) (i : Nat) : f_X10_bounded x (zb live) (es μ g i β) = some (if (β || (live && outB x)) = true then 0 else x, es μ g i (β || (live && outB x))) := by
  unfold f_X10_bounded
  have j25 : ∀ γ, f_X10_bounded_J25 x (zb live) (es μ g i γ) = some (if γ = true then 0 else x, es μ g i γ) := by
    intro γ
    unfold f_X10_bounded_J25
    rw [es_24]
    cases γ <;> rfl
  have j20 : f_X10_bounded_J20 x (zb live) (es μ g i β) = some (0, es μ g i true) := by
    unfold f_X10_bounded_J20
    rw [show (1 : Int32) = zb true from rfl, zb_pZ, Option.bind_some, es_br, j25]
    rfl
  cases live with
  | false =>
    rw [if_pos (show zb false = 0 from rfl), j25]
    simp
  | true =>
    rw [if_neg (by decide)]
    simp only [lg_cmp_gt, lg_cmp_ge]
    by_cases c1 : (1000000000 : Int64) < x
    · rw [if_pos c1, j20]
      have : outB x = true := by unfold outB; rw [decide_eq_true c1]; rfl
      rw [this]
      simp
    · rw [if_neg c1]
      by_cases c2 : (-1000000000 : Int64) ≤ x
      · rw [if_pos c2, j25]
        have : outB x = false := by
          unfold outB
          rw [decide_eq_false c1, decide_eq_false (fun z => by
            rw [Int64.lt_iff_toInt_lt] at z
            rw [Int64.le_iff_toInt_le] at c2
            omega)]
          rfl
        rw [this]
        simp
      · rw [if_neg c2, j20]
        have : outB x = true := by
          unfold outB
          rw [decide_eq_true (p := x < -1000000000) (by
            rw [Int64.lt_iff_toInt_lt]
            rw [Int64.le_iff_toInt_le] at c2
            omega)]
          simp
        rw [this]
        simp
/-- one more operation -/
theorem pc_opv {op a b : Int32} {z : Int64} (h : f_X4_workOut op a.toInt64 b.toInt64 = some z) : (pc_op op a b).isNone = outB z ∧ ∀ x, pc_op op a b = some x → z = x.toInt64 := by
  have e : pc_op op a b = if 0 < lg_cmp z 1000000000 then none else if 0 ≤ lg_cmp z (-1000000000) then some z.toInt32 else none := by
    unfold pc_op
    rw [h]
    rfl
  rw [e]
  simp only [lg_cmp_gt, lg_cmp_ge]
  unfold outB
  by_cases c1 : (1000000000 : Int64) < z
  · rw [if_pos c1, decide_eq_true c1]
    exact ⟨rfl, fun x hx => by cases hx⟩
  · rw [if_neg c1, decide_eq_false c1]
    by_cases c2 : (-1000000000 : Int64) ≤ z
    · rw [if_pos c2, decide_eq_false (fun y => by
        rw [Int64.lt_iff_toInt_lt] at y
        rw [Int64.le_iff_toInt_le] at c2
        omega)]
      refine ⟨rfl, fun x hx => ?_⟩
      cases hx
      apply Int64.toInt_inj.mp
      rw [Int64.lt_iff_toInt_lt] at c1
      rw [Int64.le_iff_toInt_le] at c2
      have k1 : (1000000000 : Int64).toInt = 1000000000 := rfl
      have k2 : (-1000000000 : Int64).toInt = -1000000000 := rfl
      rw [k1] at c1
      rw [k2] at c2
      rw [Int32.toInt_toInt64, i64_32 (by omega) (by omega)]
    · rw [if_neg c2, decide_eq_true (p := z < -1000000000) (by
        rw [Int64.lt_iff_toInt_lt]
        rw [Int64.le_iff_toInt_le] at c2
        omega)]
      exact ⟨rfl, fun x hx => by cases hx⟩
theorem rS_op {live β0 β1 β2 : Bool} {s t : Option Int32} {v w z : Int64} {op : Int32} (h1 : rS live β0 s v β1) (h2 : rS live β1 t w β2) (hz : live = true → β2 = false → f_X4_workOut op v w = some z) : rS live β0 (s.bind fun a => t.bind fun b => pc_op op a b) (if (β2 || (live && outB z)) = true then 0 else z) (β2 || (live && outB z)) := by
  obtain ⟨a1, a2⟩ := h1
  obtain ⟨b1, b2⟩ := h2
  cases live with
  | false =>
    simp only [Bool.false_and, Bool.or_false] at a1 b1 ⊢
    exact ⟨by rw [b1, a1]; simp, fun z => by cases z⟩
  | true =>
    simp only [Bool.true_and] at a1 b1 ⊢
    cases β0 with
    | true =>
      simp only [Bool.true_or] at a1
      subst a1
      simp only [Bool.true_or] at b1
      subst b1
      exact ⟨by simp, fun _ z => by cases z⟩
    | false =>
      simp only [Bool.false_or] at a1
      cases s with
      | none =>
        simp only [Option.isNone_none] at a1
        subst a1
        simp only [Bool.true_or] at b1
        subst b1
        exact ⟨by simp, fun _ _ x hx => by cases hx⟩
      | some a =>
        simp only [Option.isNone_some] at a1
        subst a1
        have ea := a2 rfl rfl a rfl
        subst ea
        cases t with
        | none =>
          simp only [Option.isNone_none, Bool.or_true] at b1
          subst b1
          exact ⟨by simp, fun _ _ x hx => by cases hx⟩
        | some b =>
          simp only [Option.isNone_some, Bool.or_false] at b1
          subst b1
          have eb := b2 rfl rfl b rfl
          subst eb
          obtain ⟨q1, q2⟩ := pc_opv (hz rfl rfl)
          simp only [Option.bind_some, Bool.false_or]
          refine ⟨?_, fun _ _ x hx => ?_⟩
          · simp only [Bool.true_and]
            exact q1.symm
          · have := q2 x hx
            rw [if_neg]
            · exact this
            · rw [← q1, hx]
              simp
end
end
