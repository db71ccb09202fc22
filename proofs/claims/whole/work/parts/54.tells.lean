section
/-! What the reference tells by a law's tokens. -/
def ds (x y : Nat) : Nat := if x ≤ y then y - x else x - y
def far9 (c d : Nat) : Nat := ds (c / 5) (d / 5) + ds (c % 5) (d % 5)
theorem ds_comm (x y : Nat) : ds x y = ds y x := by unfold ds; split <;> split <;> omega
theorem far9_comm (c d : Nat) : far9 c d = far9 d c := by unfold far9; rw [ds_comm (c / 5), ds_comm (c % 5)]
theorem ds_le {x y B : Nat} (hx : x ≤ B) (hy : y ≤ B) : ds x y ≤ B := by unfold ds; split <;> omega
theorem far9_le {c d : Nat} (hc : c < 25) (hd : d < 25) : far9 c d ≤ 8 := by
  unfold far9
  have h1 := ds_le (x := c / 5) (y := d / 5) (B := 4) (by omega) (by omega)
  have h2 := ds_le (x := c % 5) (y := d % 5) (B := 4) (by omega) (by omega)
  omega
theorem n_rem5 {a : Nat} (ha : a < 2147483648) : Int32.ofNat a - Int32.ofNat a / 5 * 5 = Int32.ofNat (a % 5) := n_rem (b := 5) ha (by decide)
theorem n_div5 {a : Nat} (ha : a < 2147483648) : Int32.ofNat a / 5 = Int32.ofNat (a / 5) := n_div (b := 5) ha (by decide)
theorem n_abs {x y : Nat} (hx : x < 1000000) (hy : y < 1000000) : (if 0 ≤ Int32.ofNat x - Int32.ofNat y then Int32.ofNat x - Int32.ofNat y else 0 - (Int32.ofNat x - Int32.ofNat y)) = Int32.ofNat (ds x y) := by
  unfold ds
  by_cases h : x ≤ y
  · rw [if_pos h]
    by_cases e : x = y
    · subst e
      rw [Nat.sub_self, n_sub (Nat.le_refl _), Nat.sub_self, if_pos (by decide)]
    · have e1 : Int32.ofNat x - Int32.ofNat y = -Int32.ofNat (y - x) := by
        rw [← n_sub h, Int32.neg_sub]
      rw [e1, if_neg]
      · rw [Int32.sub_eq_add_neg, Int32.neg_neg, Int32.zero_add]
      · rw [i_le, n_neg (by omega)]
        show ¬ (0 : Int) ≤ _
        omega
  · rw [if_neg h, n_sub (by omega), if_pos]
    rw [i_le, n_toInt (by omega)]
    show (0 : Int) ≤ _
    omega
theorem v_far9 {μ : hm_M} {v a b c d : Nat} (ha : a < 8) (hb : b < 8) (hc : μ.1 (v + 1) a = Int32.ofNat c) (hd : μ.1 (v + 1) b = Int32.ofNat d) (lc : c < 25) (ld : d < 25) : f_X8_farBetween v (Int32.ofNat a) (Int32.ofNat b) μ = some (Int32.ofNat (far9 c d)) := by
  unfold f_X8_farBetween
  simp only [ld_n ha (by decide : 8 < 2147483648), ld_n hb (by decide : 8 < 2147483648), Option.bind_some, hc, hd, n_rem5 (show c < 2147483648 by omega), n_rem5 (show d < 2147483648 by omega)]
  rw [n_div5 (show c < 2147483648 by omega), n_div5 (show d < 2147483648 by omega), n_abs (by omega) (by omega), n_abs (by omega) (by omega), n_add, Nat.add_comm]
  rfl
theorem v_apart {x y : Nat} (hx : x < 1000000) (hy : y < 1000000) : f_X10_apart (Int32.ofNat x) (Int32.ofNat y) = some (Int32.ofNat (ds x y)) := by
  unfold f_X10_apart ds
  by_cases h : x ≤ y
  · rw [if_pos (by rw [n_le (by omega) (by omega)]; exact h), if_pos h, n_sub h]
  · rw [if_neg (by rw [n_le (by omega) (by omega)]; exact h), if_neg h, n_sub (by omega)]
theorem v_far10 {μ : hm_M} {a b c d : Nat} (ha : a < 8) (hb : b < 8) (hc : μ.1 181 a = Int32.ofNat c) (hd : μ.1 181 b = Int32.ofNat d) (lc : c < 25) (ld : d < 25) : f_X10_farOf (Int32.ofNat a) (Int32.ofNat b) μ = some (Int32.ofNat (far9 c d)) := by
  unfold f_X10_farOf
  have z : ∀ k : Nat, (0 : Int32) + Int32.ofNat k = Int32.ofNat k := fun k => Int32.zero_add _
  simp only [z, ld_n (show a < 5665 by omega) (by decide : 5665 < 2147483648), ld_n (show b < 5665 by omega) (by decide : 5665 < 2147483648), Option.bind_some, hc, hd, n_rem5 (show c < 2147483648 by omega), n_rem5 (show d < 2147483648 by omega)]
  simp only [n_div5 (show c < 2147483648 by omega), n_div5 (show d < 2147483648 by omega), Option.bind_some, v_apart (show c / 5 < 1000000 by omega) (show d / 5 < 1000000 by omega), v_apart (show c % 5 < 1000000 by omega) (show d % 5 < 1000000 by omega), n_add]
  rfl
/-- the words of a law, of two, of one -/
def en2 (ρ : Nat → Int32) (a b : Nat) (k : Nat) : Int32 := if k = 0 then Int32.ofNat a else if k = 1 then Int32.ofNat b else if k = 2 then ρ (25 + a) else if k = 3 then ρ (25 + b) else if k = 4 then Int32.ofNat (far9 (nat (ρ a)) (nat (ρ b))) else if k = 5 then ρ (8 + a) + ρ (8 + b) else if k = 6 then ρ 24 else ρ 52
def en1 (ρ : Nat → Int32) (a : Nat) (k : Nat) : Int32 := if k = 0 then Int32.ofNat a else if k = 1 then -1 else if k = 2 then ρ (25 + a) else if k = 3 then -1 else if k = 4 then -1 else if k = 5 then ρ (8 + a) else if k = 6 then ρ 24 else ρ 52
/-- only what is asked for, and the place in the text, have changed -/
def fq (μ μ1 : hm_M) : Prop := μ1.2 = μ.2 ∧ ∀ a j, a ≠ 191 → ¬ (a = 179 ∧ 22 ≤ j ∧ j ≤ 25) → μ1.1 a j = μ.1 a j
theorem fq_refl (μ : hm_M) : fq μ μ := ⟨rfl, fun _ _ _ _ => rfl⟩
theorem fq_trans {μ μ1 μ2 : hm_M} (h : fq μ μ1) (g : fq μ1 μ2) : fq μ μ2 := ⟨g.1.trans h.1, fun a j h1 h2 => (g.2 a j h1 h2).trans (h.2 a j h1 h2)⟩
theorem fq_es {μ : hm_M} {g i : Nat} {β : Bool} : fq μ (es μ g i β) := ⟨rfl, fun a j h1 h2 => es_ne (by omega)⟩
theorem fq_a {μ μ1 : hm_M} (h : fq μ μ1) (j : Nat) (x : Int32) : fq μ (hm_wI μ1 191 j x) := ⟨h.1, fun a k h1 h2 => by rw [wI_ne (by omega)]; exact h.2 a k h1 h2⟩
theorem fq_o {μ μ1 : hm_M} (h : fq μ μ1) {j : Nat} (hj : 22 ≤ j ∧ j ≤ 25) (x : Int32) : fq μ (hm_wI μ1 179 j x) := ⟨h.1, fun a k h1 h2 => by rw [wI_ne (by omega)]; exact h.2 a k h1 h2⟩
def clv (h : Nat) (high : Int32) (v : Int32) : Int64 := if h = 2 then 1 else if 0 ≤ lg_cmp v.toInt64 0 then (if lg_cmp v.toInt64 high.toInt64 ≤ 0 then v.toInt64 else high.toInt64) else 0
section
variable {μ : hm_M} {g N : Nat} {tk vl : Nat → Nat} {e : Nat → Int32}
theorem ev_if (h : TKs μ g N tk vl false e) {j l j1 l1 : Nat} {C C1 : pc_C} {t : Option pc_S} (hC : C.length ≤ j) (hj : j ≤ 400) (hp : pc_if false tk vl j l C = .ok (j1, l1, C1, t)) {h0 v2 v3 high wo : Int32} {c69 E : Int64 → hm_M → Option (Int32 × hm_M)} (sb : Bool) (y6 y9 : Int64) (y8 : Int32) : ∃ (w : Bool) (γ : Bool), f_X10_tells_J120 h0 v2 v3 high wo c69 E y9 y6 y8 (es μ g j sb) = f_X10_tells_J154 h0 v2 v3 high wo c69 E (zb w) y6 y8 y9 (zb sb) (es μ g j1 γ) ∧ ((w = true ∧ γ = false) ↔ (match t with
    | none => True
    | some t => t e = some 1)) := by
  unfold f_X10_tells_J120
  rw [es_24, show (0 : Int32) = zb false from rfl, zb_pZ, Option.bind_some, es_br, show (4 : Int32) = Int32.ofNat 4 from rfl, ev_pass h (by omega) (by omega)]
  unfold pc_if at hp
  split at hp
  · rename_i c4
    obtain ⟨j2, l2, C2, s, e1, hp⟩ := pc_b_ok hp
    cases hp
    have hN := h.1.1
    have hiN := tk_N h (i := j) (by omega)
    obtain ⟨w, γ, q1, q2, q3⟩ := ev_test h 10 _ _ _ _ _ _ _ _ 40 (by omega) (by omega) (by omega) e1 true false
    refine ⟨w, γ, ?_, ?_⟩
    · rw [if_pos c4, b2_some, if_neg (by decide), show (1 : Int32) = zb true from rfl, show F_X10_testOf (zb true) (es μ g (j + 1) false) = _ from q1, b2_some]
      cases w with
      | false => rw [if_pos (show zb false = zb false from rfl)]
      | true =>
        rw [if_neg (show ¬ zb true = zb false by decide)]
        rfl
    · simp only [Bool.false_or, Bool.true_and] at q2
      have tk1 := (test_ok (W := 8) h.2.2.1 (by omega) rfl _ _ _ _ _ _ _ _ _ (by omega) e1).2.2.1
      show _ ↔ s e = some 1
      cases hs : s e with
      | none =>
        rw [hs] at q2
        constructor
        · rintro ⟨-, z⟩
          rw [q2] at z
          cases z
        · intro z
          cases z
      | some x =>
        rw [hs] at q2
        have := q3 rfl rfl x hs
        subst this
        rw [q2]
        cases w <;> simp [zb]
  · rename_i c4
    cases hp
    refine ⟨true, false, ?_, ?_⟩
    · rw [if_neg c4, b2_some, if_pos (show (0 : Int32) = zb false from rfl)]
      rfl
    · simp
theorem ev_cl (h : TKs μ g N tk vl false e) {i l j l1 : Nat} {C C1 : pc_C} {k : pc_K} (hC : C.length ≤ i) (hl : l ≤ 50) (hp : pc_law1 tk vl i l C = .ok (j, l1, C1, k)) {hd : Nat} (hh : hd < 3) {v2 v3 high wo : Int32} {E : Int64 → hm_M → Option (Int32 × hm_M)} (F : Nat) (y6 : Int64) (β : Bool) : ∃ γ : Bool, f_X10_tells_L69 (Int32.ofNat (hd + 1)) v2 v3 high wo E (F + 1) y6 (es μ g i β) = f_X10_tells_L69 (Int32.ofNat (hd + 1)) v2 v3 high wo E F (match pc_cl hd k e with
    | some v => (if hd = 2 then (if 0 ≤ lg_cmp 1 0 then (if lg_cmp 1 high.toInt64 ≤ 0 then 1 else high.toInt64) else 0) else if 0 ≤ lg_cmp v.toInt64 0 then (if lg_cmp v.toInt64 high.toInt64 ≤ 0 then v.toInt64 else high.toInt64) else 0)
    | none => y6) (es μ g (j + 1) γ) := by
  have hN := h.1.1
  have hg := h.1.2
  have h9 : pc_headL (tk i) ≠ 9 := by
    intro z
    unfold pc_law1 at hp
    rw [if_pos z] at hp
    cases hp
  have hc : tk i = 1 ∨ tk i = 2 ∨ tk i = 3 := by
    unfold pc_headL at h9
    by_cases a1 : tk i = 1
    · exact Or.inl a1
    · by_cases a2 : tk i = 2
      · exact Or.inr (Or.inl a2)
      · by_cases a3 : tk i = 3
        · exact Or.inr (Or.inr a3)
        · rw [if_neg a1, if_neg a2, if_neg a3] at h9
          exact absurd rfl h9
  have hk1 : pc_headL (tk i) + 1 = tk i := by
    rcases hc with z | z | z <;> rw [z] <;> rfl
  have hiN := tk_N h (i := i) (by omega)
  have start : f_X10_tells_L69 (Int32.ofNat (hd + 1)) v2 v3 high wo E (F + 1) y6 (es μ g i β) = (if tk i = 3 then f_X10_tells_J120 (Int32.ofNat (hd + 1)) v2 v3 high wo (f_X10_tells_L69 (Int32.ofNat (hd + 1)) v2 v3 high wo E F) E (1 : Int64) y6 (Int32.ofNat (tk i)) (es μ g (i + 1) false) else hm_b2 (F_X10_sumOf (1 : Int32) (es μ g (i + 1) false)) fun x14 μ15 => f_X10_tells_J120 (Int32.ofNat (hd + 1)) v2 v3 high wo (f_X10_tells_L69 (Int32.ofNat (hd + 1)) v2 v3 high wo E F) E x14 y6 (Int32.ofNat (tk i)) μ15) := by
    rw [f_X10_tells_L69, if_neg, ev_code h (by omega), Option.bind_some, show (0 : Int32) = zb false from rfl, zb_pZ, Option.bind_some, es_br, ev_step, Option.bind_some]
    · by_cases z : tk i = 3
      · rw [if_pos (by rw [z]; rfl), if_pos z]
      · rw [if_neg (by rw [show (3 : Int32) = Int32.ofNat 3 from rfl, n_eq (by omega) (by omega)]; exact z), if_neg z]
    · rw [es_22, es_ne (by omega), h.2.2.2.1, n_le (by omega) (by omega)]
      omega
  have fin : ∀ (w γ sb : Bool) (y9 : Int64), f_X10_tells_J154 (Int32.ofNat (hd + 1)) v2 v3 high wo (f_X10_tells_L69 (Int32.ofNat (hd + 1)) v2 v3 high wo E F) E (zb w) y6 (Int32.ofNat (tk i)) y9 (zb sb) (es μ g j γ) = f_X10_tells_L69 (Int32.ofNat (hd + 1)) v2 v3 high wo E F (if tk i = hd + 1 ∧ w = true ∧ γ = false ∧ sb = false then (if 0 ≤ lg_cmp y9 0 then (if lg_cmp y9 high.toInt64 ≤ 0 then y9 else high.toInt64) else 0) else y6) (es μ g (j + 1) γ) := by
    intro w γ sb y9
    have j209 : ∀ y, f_X10_tells_J209 (Int32.ofNat (hd + 1)) v2 v3 high wo (f_X10_tells_L69 (Int32.ofNat (hd + 1)) v2 v3 high wo E F) E y (es μ g j γ) = f_X10_tells_L69 (Int32.ofNat (hd + 1)) v2 v3 high wo E F y (es μ g (j + 1) γ) := by
      intro y
      unfold f_X10_tells_J209
      rw [ev_step, Option.bind_some]
    unfold f_X10_tells_J154 f_X10_tells_J207
    rw [es_24]
    by_cases z : tk i = hd + 1
    · rw [if_pos (by rw [z])]
      cases w with
      | false => rw [if_pos (show zb false = 0 from rfl), j209, if_neg (by simp)]
      | true =>
        rw [if_neg (show ¬ zb true = 0 by decide)]
        cases γ with
        | true => rw [if_neg (show ¬ zb true = 0 by decide), j209, if_neg (by simp)]
        | false =>
          rw [if_pos (show zb false = 0 from rfl)]
          cases sb with
          | true => rw [if_neg (show ¬ zb true = 0 by decide), j209, if_neg (by simp)]
          | false =>
            rw [if_pos (show zb false = 0 from rfl), if_pos (show tk i = hd + 1 ∧ true = true ∧ false = false ∧ false = false from ⟨z, rfl, rfl, rfl⟩)]
            split
            · split
              · rw [j209]
              · rw [j209]
            · rw [j209]
    · rw [if_neg (by rw [n_eq (by omega) (by omega)]; exact z), j209, if_neg (by omega)]
  rw [start]
  unfold pc_law1 at hp
  rw [if_neg h9] at hp
  split at hp
  · rename_i h2
    obtain ⟨j2, l2, C2, t, e1, hp⟩ := pc_b_ok hp
    cases hp
    have z3 : tk i = 3 := by omega
    obtain ⟨w, γ, q1, q2⟩ := ev_if h (by omega) (by omega) e1 (h0 := Int32.ofNat (hd + 1)) (v2 := v2) (v3 := v3) (high := high) (wo := wo) (c69 := f_X10_tells_L69 (Int32.ofNat (hd + 1)) v2 v3 high wo E F) (E := E) false y6 1 (Int32.ofNat (tk i))
    refine ⟨γ, ?_⟩
    rw [if_pos z3, q1, fin]
    congr 1
    unfold pc_cl
    by_cases z : hd = 2
    · subst z
      show (if tk i = 2 + 1 ∧ w = true ∧ γ = false ∧ false = false then _ else y6) = _
      rw [if_pos (show (2 : Nat) = 2 from rfl)]
      cases t with
      | none =>
        have := q2.mpr trivial
        rw [if_pos ⟨z3, this.1, this.2, rfl⟩]
        rfl
      | some t =>
        simp only
        by_cases y : t e = some 1
        · have := q2.mpr y
          rw [if_pos ⟨z3, this.1, this.2, trivial⟩, if_pos y]
          rfl
        · rw [if_neg (fun x => y (q2.mp ⟨x.2.1, x.2.2.1⟩)), if_neg y]
    · rw [if_neg (by omega), if_neg (show ¬ (2 : Nat) = hd by omega)]
  · rename_i h2
    obtain ⟨j2, l2, C2, s, e1, hp⟩ := pc_b_ok hp
    obtain ⟨j3, l3, C3, t, e2, hp⟩ := pc_b_ok hp
    cases hp
    have z3 : ¬ tk i = 3 := fun z => by rw [z] at h2; exact h2 rfl
    obtain ⟨⟨a1, a2, a3, a4, a5⟩, b, c, d⟩ := sum_ok (W := 8) h.2.2.1 rfl _ _ _ _ _ _ _ _ _ e1
    obtain ⟨x14, sb, q1, q2, q3⟩ := ev_sum h 10 _ _ _ _ _ _ _ _ 40 (by omega) (by omega) e1 true false
    obtain ⟨w, γ, p1, p2⟩ := ev_if h (by omega) (by omega) e2 (h0 := Int32.ofNat (hd + 1)) (v2 := v2) (v3 := v3) (high := high) (wo := wo) (c69 := f_X10_tells_L69 (Int32.ofNat (hd + 1)) v2 v3 high wo E F) (E := E) sb y6 x14 (Int32.ofNat (tk i))
    refine ⟨γ, ?_⟩
    rw [if_neg z3, show (1 : Int32) = zb true from rfl, show F_X10_sumOf (zb true) (es μ g (i + 1) false) = _ from q1, b2_some, p1, fin]
    congr 1
    simp only [Bool.false_or, Bool.true_and] at q2
    unfold pc_cl
    by_cases z : pc_headL (tk i) = hd
    · rw [if_pos (show pc_headL (tk i) = hd from z)]
      have hz : tk i = hd + 1 := by omega
      have hn2 : ¬ hd = 2 := by omega
      simp only [if_neg hn2]
      have body : (w = true ∧ γ = false) → (if tk i = hd + 1 ∧ w = true ∧ γ = false ∧ sb = false then (if 0 ≤ lg_cmp x14 0 then (if lg_cmp x14 high.toInt64 ≤ 0 then x14 else high.toInt64) else 0) else y6) = (match s e with
          | some v => if 0 ≤ lg_cmp v.toInt64 0 then (if lg_cmp v.toInt64 high.toInt64 ≤ 0 then v.toInt64 else high.toInt64) else 0
          | none => y6) := by
        intro hw
        cases hs : s e with
        | none =>
          rw [hs] at q2
          rw [if_neg (fun x => by rw [q2] at x; cases x.2.2.2)]
        | some x =>
          rw [hs] at q2
          have := q3 rfl rfl x hs
          subst this
          rw [if_pos ⟨hz, hw.1, hw.2, q2⟩]
      cases t with
      | none => exact body (p2.mpr trivial)
      | some t =>
        simp only
        by_cases y : t e = some 1
        · rw [if_pos y]
          exact body (p2.mpr y)
        · rw [if_neg (fun x => y (p2.mp ⟨x.2.1, x.2.2.1⟩)), if_neg y]
    · rw [if_neg (show ¬ pc_headL (tk i) = hd from z), if_neg (by omega)]
end
end
