section
/-! The reference works tests out. -/
def cq (c : Nat) (v w : Int64) : Bool := if c = 160 then decide (¬ 0 ≤ lg_cmp v w) else if c = 162 then decide (¬ lg_cmp v w ≤ 0) else decide (lg_cmp v w = 0)
theorem pc_opz {op a b : Int32} {z : Bool} (h : f_X4_workOut op a.toInt64 b.toInt64 = some (if z = true then 1 else 0)) : pc_op op a b = some (zb z) := by
  unfold pc_op
  rw [h]
  cases z <;> decide
theorem pc_opc {c : Nat} (hc : pc_cmp c ≠ 0) (a b : Int32) : pc_op (Int32.ofNat (pc_cmp c)) a b = some (zb (cq c a.toInt64 b.toInt64)) := by
  have hh : c = 160 ∨ c = 162 ∨ c = 161 := by
    unfold pc_cmp at hc
    by_cases h1 : c = 160
    · exact Or.inl h1
    · by_cases h2 : c = 162
      · exact Or.inr (Or.inl h2)
      · by_cases h3 : c = 161
        · exact Or.inr (Or.inr h3)
        · rw [if_neg h1, if_neg h2, if_neg h3] at hc
          exact absurd rfl hc
  apply pc_opz
  generalize a.toInt64 = v
  generalize b.toInt64 = w
  rcases hh with rfl | rfl | rfl
  · refine (wo_7 v w).trans ?_
    rw [show cq 160 v w = decide (¬ 0 ≤ lg_cmp v w) from rfl]
    by_cases q : 0 ≤ lg_cmp v w
    · rw [if_pos q, decide_eq_false (fun z => z q)]; rfl
    · rw [if_neg q, decide_eq_true q]; rfl
  · refine (wo_8 v w).trans ?_
    rw [show cq 162 v w = decide (¬ lg_cmp v w ≤ 0) from rfl]
    by_cases q : lg_cmp v w ≤ 0
    · rw [if_pos q, decide_eq_false (fun z => z q)]; rfl
    · rw [if_neg q, decide_eq_true q]; rfl
  · refine (wo_9 v w).trans ?_
    rw [show cq 161 v w = decide (lg_cmp v w = 0) from rfl]
    by_cases q : lg_cmp v w = 0
    · rw [if_pos q, decide_eq_true q]; rfl
    · rw [if_neg q, decide_eq_false q]; rfl
theorem rB_cmp {live β0 β1 β2 : Bool} {s t : Option Int32} {v w : Int64} {c : Nat} (hc : pc_cmp c ≠ 0) (h1 : rS live β0 s v β1) (h2 : rS live β1 t w β2) : rB live β0 (s.bind fun a => t.bind fun b => pc_op (Int32.ofNat (pc_cmp c)) a b) (live && (!β2 && cq c v w)) β2 := by
  obtain ⟨a1, a2⟩ := h1
  obtain ⟨b1, b2⟩ := h2
  cases live with
  | false =>
    simp only [Bool.false_and, Bool.or_false] at a1 b1 ⊢
    exact ⟨by rw [b1, a1]; simp, fun z => by cases z⟩
  | true =>
    simp only [Bool.true_and] at a1 b1 ⊢
    cases β0 with
    | true =>
      simp only [Bool.true_or] at a1
      subst a1
      simp only [Bool.true_or] at b1
      subst b1
      exact ⟨by simp, fun _ z => by cases z⟩
    | false =>
      simp only [Bool.false_or] at a1
      cases s with
      | none =>
        simp only [Option.isNone_none] at a1
        subst a1
        simp only [Bool.true_or] at b1
        subst b1
        exact ⟨by simp, fun _ _ x hx => by cases hx⟩
      | some a =>
        simp only [Option.isNone_some] at a1
        subst a1
        have ea := a2 rfl rfl a rfl
        subst ea
        cases t with
        | none =>
          simp only [Option.isNone_none, Bool.or_true] at b1
          subst b1
          exact ⟨by simp, fun _ _ x hx => by cases hx⟩
        | some b =>
          simp only [Option.isNone_some, Bool.or_false] at b1
          subst b1
          have eb := b2 rfl rfl b rfl
          subst eb
          simp only [Option.bind_some, Bool.not_false, Bool.true_and]
          rw [pc_opc hc]
          exact ⟨rfl, fun _ _ x hx => by cases hx; rfl⟩
theorem rB_an {live β0 β1 β2 v w : Bool} {s t : Option Int32} (h1 : rB live β0 s v β1) (h2 : rB (live && v) β1 t w β2) : rB live β0 (s.bind fun a => if a = 0 then some a else t) (v && w) β2 := by
  obtain ⟨a1, a2⟩ := h1
  obtain ⟨b1, b2⟩ := h2
  cases live with
  | false =>
    simp only [Bool.false_and, Bool.or_false] at a1 b1 ⊢
    exact ⟨by rw [b1, a1]; simp, fun z => by cases z⟩
  | true =>
    simp only [Bool.true_and] at a1 b1 b2 ⊢
    cases β0 with
    | true =>
      simp only [Bool.true_or] at a1
      subst a1
      simp only [Bool.true_or] at b1
      subst b1
      exact ⟨by simp, fun _ z => by cases z⟩
    | false =>
      simp only [Bool.false_or] at a1
      cases s with
      | none =>
        simp only [Option.isNone_none] at a1
        subst a1
        simp only [Bool.true_or] at b1
        subst b1
        exact ⟨by simp, fun _ _ x hx => by cases hx⟩
      | some a =>
        simp only [Option.isNone_some] at a1
        subst a1
        have ea := a2 rfl rfl a rfl
        subst ea
        cases v with
        | false =>
          simp only [Bool.false_and, Bool.or_false] at b1
          subst b1
          exact ⟨rfl, fun _ _ x hx => by
            have : x = zb false := by
              have e0 : ((some (zb false) : Option Int32).bind fun a => if a = 0 then some a else t) = some (zb false) := by rw [Option.bind_some, if_pos (by decide)]
              rw [e0] at hx
              cases hx; rfl
            exact this⟩
        | true =>
          have e0 : ((some (zb true) : Option Int32).bind fun a => if a = 0 then some a else t) = t := by rw [Option.bind_some, if_neg (by decide)]
          rw [e0]
          simp only [Bool.false_or, Bool.true_and] at b1 b2 ⊢
          exact ⟨b1, fun _ _ x hx => b2 trivial trivial x hx⟩
theorem rB_or {live β0 β1 β2 v w : Bool} {s t : Option Int32} (h1 : rB live β0 s v β1) (h2 : rB (live && !v) β1 t w β2) : rB live β0 (s.bind fun a => if a = 1 then some a else t) (v || w) β2 := by
  obtain ⟨a1, a2⟩ := h1
  obtain ⟨b1, b2⟩ := h2
  cases live with
  | false =>
    simp only [Bool.false_and, Bool.or_false] at a1 b1 ⊢
    exact ⟨by rw [b1, a1]; simp, fun z => by cases z⟩
  | true =>
    simp only [Bool.true_and] at a1 b1 b2 ⊢
    cases β0 with
    | true =>
      simp only [Bool.true_or] at a1
      subst a1
      simp only [Bool.true_or] at b1
      subst b1
      exact ⟨by simp, fun _ z => by cases z⟩
    | false =>
      simp only [Bool.false_or] at a1
      cases s with
      | none =>
        simp only [Option.isNone_none] at a1
        subst a1
        simp only [Bool.true_or] at b1
        subst b1
        exact ⟨by simp, fun _ _ x hx => by cases hx⟩
      | some a =>
        simp only [Option.isNone_some] at a1
        subst a1
        have ea := a2 rfl rfl a rfl
        subst ea
        cases v with
        | true =>
          simp only [Bool.not_true, Bool.false_and, Bool.or_false] at b1
          subst b1
          exact ⟨rfl, fun _ _ x hx => by
            have : x = zb true := by
              have e0 : ((some (zb true) : Option Int32).bind fun a => if a = 1 then some a else t) = some (zb true) := by rw [Option.bind_some, if_pos (by decide)]
              rw [e0] at hx
              cases hx; rfl
            exact this⟩
        | false =>
          have e0 : ((some (zb false) : Option Int32).bind fun a => if a = 1 then some a else t) = t := by rw [Option.bind_some, if_neg (by decide)]
          rw [e0]
          simp only [Bool.not_false, Bool.true_and, Bool.false_or] at b1 b2 ⊢
          exact ⟨b1, fun _ _ x hx => b2 trivial trivial x hx⟩
theorem rB_nt {live β0 β v b : Bool} {s0 : pc_S} {e : Nat → Int32} (h : rB live β0 (s0 e) v β) : rB live β0 ((if b = true then pc_nt s0 else s0) e) (v != b) β := by
  cases b with
  | false =>
    simp only [Bool.false_eq_true, if_false, Bool.bne_false]
    exact h
  | true =>
    simp only [if_true, Bool.bne_true]
    obtain ⟨a1, a2⟩ := h
    unfold pc_nt
    cases hs : s0 e with
    | none =>
      rw [hs] at a1
      exact ⟨a1, fun _ _ x hx => by cases hx⟩
    | some a =>
      rw [hs] at a1
      refine ⟨a1, fun h1 h2 x hx => ?_⟩
      have := a2 h1 h2 a hs
      subst this
      cases hx
      cases v <;> decide
section
variable {μ : hm_M} {g N : Nat} {tk vl : Nat → Nat} {ord : Bool} {e : Nat → Int32}
theorem ev_pos (h : TKs μ g N tk vl ord e) {kB kP kO kT : Int32 → hm_M → Option (Int32 × hm_M)} {kt : Nat → Nat → Nat → pc_C → pc_R pc_S} (hk : ∀ d i l C j l1 C1 s, C.length ≤ i → i ≤ 400 → kt d i l C = .ok (j, l1, C1, s) → evB μ g kT i j (s e) ∧ j ≤ N) {d i l j l1 : Nat} {C C1 : pc_C} {s : pc_S} {b : Bool} (hC : C.length ≤ i) (hi : i ≤ 400) (hp : pc_pos ord tk vl kt d i l C b = .ok (j, l1, C1, s)) : ∃ s0 : pc_S, s = (if b = true then pc_nt s0 else s0) ∧ evB μ g (f_X10_positiveOf kB kP kO kT) i j (s0 e) := by
  have hN := h.1.1
  have hg := h.1.2
  have hW := h.2.2.1
  have e40 : f_X10_sign 40 = some (Int32.ofNat 140) := rfl
  have s60 : f_X10_sign 60 = some (Int32.ofNat 160) := rfl
  have s62 : f_X10_sign 62 = some (Int32.ofNat 162) := rfl
  have hfin : ∀ {j1 l1 j2 l2 : Nat} {C1 C2 : pc_C} {s0 s1 : pc_S}, pc_fin b j1 l1 C1 s0 = .ok (j2, l2, C2, s1) → j2 = j1 ∧ s1 = (if b = true then pc_nt s0 else s0) := by
    intro j1 l1 j2 l2 C1 C2 s0 s1 z
    unfold pc_fin at z
    split at z
    · rename_i hb
      cases z
      exact ⟨rfl, by rw [if_pos hb]⟩
    · rename_i hb
      cases z
      exact ⟨rfl, by rw [if_neg hb]⟩
  unfold pc_pos at hp
  split at hp
  · rename_i c140
    split at hp
    · obtain ⟨j2, l2, C2, t, e1, hp⟩ := pc_b_ok hp
      split at hp
      · obtain ⟨rfl, rfl⟩ := hfin hp
        have hiN := tk_N h (i := i) (by omega)
        obtain ⟨hk1, hk2⟩ := hk _ _ _ _ _ _ _ _ (by omega) (by omega) e1
        refine ⟨t, rfl, fun live β0 => ?_⟩
        obtain ⟨v, β, q1, q2⟩ := hk1 live β0
        refine ⟨v, β, ?_, q2⟩
        unfold f_X10_positiveOf
        rw [e40, Option.bind_some, ev_pass h (by omega) (by omega), if_pos c140, b2_some, if_neg (by decide), q1, b2_some, ev_step, Option.bind_some, zb_rz]
        rfl
      · cases hp
    · cases hp
  · rename_i c140
    obtain ⟨j2, l2, C2, t2, e1, hp⟩ := pc_b_ok hp
    split at hp
    · cases hp
    · rename_i hc
      obtain ⟨j3, l3, C3, t3, e2, hp⟩ := pc_b_ok hp
      obtain ⟨rfl, rfl⟩ := hfin hp
      have o1 := (sum_ok (W := if ord = true then 21 else 8) hW rfl _ _ _ _ _ _ _ _ _ e1).1
      have o2 := (sum_ok (W := if ord = true then 21 else 8) hW rfl _ _ _ _ _ _ _ _ _ e2).1
      refine ⟨_, rfl, fun live β0 => ?_⟩
      obtain ⟨v, β1, q1, q2⟩ := ev_sum h 10 _ _ _ _ _ _ _ _ 40 (by omega) hi e1 live β0
      obtain ⟨w, β2, q3, q4⟩ := ev_sum h 10 _ _ _ _ _ _ _ _ 40 (by omega) (by omega) e2 live β1
      refine ⟨live && (!β2 && cq (tk j2) v w), β2, ?_, rB_cmp hc q2 q4⟩
      unfold f_X10_positiveOf
      rw [e40, Option.bind_some, ev_pass h (by omega) (by omega), if_neg c140, b2_some, if_pos rfl, show F_X10_sumOf (zb live) (es μ g i β0) = _ from q1, b2_some, ev_code h (by omega), Option.bind_some, ev_step, Option.bind_some, show F_X10_sumOf (zb live) (es μ g (j2 + 1) β1) = _ from q3, b2_some]
      have hlt := tk_lt h j2
      cases live with
      | false =>
        rw [if_pos (show zb false = 0 from rfl)]
        rfl
      | true =>
        rw [if_neg (by decide), es_24]
        cases β2 with
        | true =>
          rw [if_neg (by decide)]
          rfl
        | false =>
          rw [if_pos (show zb false = 0 from rfl), s60, Option.bind_some, s62]
          simp only [Bool.not_false, Bool.true_and, Option.bind_some]
          unfold cq
          by_cases n1 : tk j2 = 160
          · rw [if_pos (by rw [n1]), if_pos n1]
            by_cases q : 0 ≤ lg_cmp v w
            · rw [if_pos q, decide_eq_false (fun z => z q)]; rfl
            · rw [if_neg q, decide_eq_true q]; rfl
          · rw [if_neg (by rw [n_eq (by omega) (by omega)]; exact n1), if_neg n1]
            by_cases n2 : tk j2 = 162
            · rw [if_pos (by rw [n2]), if_pos n2]
              by_cases q : lg_cmp v w ≤ 0
              · rw [if_pos q, decide_eq_false (fun z => z q)]; rfl
              · rw [if_neg q, decide_eq_true q]; rfl
            · rw [if_neg (by rw [n_eq (by omega) (by omega)]; exact n2), if_neg n2]
              by_cases q : lg_cmp v w = 0
              · rw [if_pos q, decide_eq_true q]; rfl
              · rw [if_neg q, decide_eq_false q]; rfl
theorem ev_nots (h : TKs μ g N tk vl ord e) {kB kP kO kT : Int32 → hm_M → Option (Int32 × hm_M)} (live β : Bool) (E : Int32 → hm_M → Option (Int32 × hm_M)) : ∀ (m i : Nat) (b : Bool) (F : Nat), i ≤ 400 → N ≤ m + i → m < F → f_X10_plainOf_L2 kB kP kO kT (zb live) E F (zb b) (es μ g i β) = E (zb (pc_nots tk m i b).2) (es μ g (pc_nots tk m i b).1 β) ∧ (pc_nots tk m i b).1 ≤ 400 := by
  have hN := h.1.1
  intro m
  induction m with
  | zero =>
    intro i b F hi hm hF
    obtain ⟨F, rfl⟩ : ∃ M, F = M + 1 := ⟨F - 1, by omega⟩
    refine ⟨?_, hi⟩
    rw [f_X10_plainOf_L2, show (7 : Int32) = Int32.ofNat 7 from rfl, ev_pass h (by omega) (by omega), if_neg (by rw [h.2.2.1 i (by omega)]; omega), b2_some, if_pos rfl]
    rfl
  | succ m ih =>
    intro i b F hi hm hF
    obtain ⟨F, rfl⟩ : ∃ M, F = M + 1 := ⟨F - 1, by omega⟩
    rw [f_X10_plainOf_L2, show (7 : Int32) = Int32.ofNat 7 from rfl, ev_pass h (by omega) (by omega)]
    unfold pc_nots
    by_cases c : tk i = 7
    · have hiN := tk_N h (i := i) (by omega)
      rw [if_pos c, if_pos c, b2_some, if_neg (by decide)]
      have := ih (i + 1) (!b) F (by omega) (by omega) (by omega)
      cases b with
      | false =>
        rw [if_pos (show zb false = 0 from rfl)]
        exact this
      | true =>
        rw [if_neg (show ¬ zb true = 0 by decide)]
        exact this
    · rw [if_neg c, if_neg c, b2_some, if_pos rfl]
      exact ⟨rfl, hi⟩
theorem ev_plain2 (h : TKs μ g N tk vl ord e) {kB kP kT : Int32 → hm_M → Option (Int32 × hm_M)} {jB jP jO kt' : Int32 → hm_M → Option (Int32 × hm_M)} {kt : Nat → Nat → Nat → pc_C → pc_R pc_S} (hk : ∀ d i l C j l1 C1 s, C.length ≤ i → i ≤ 400 → kt d i l C = .ok (j, l1, C1, s) → evB μ g kt' i j (s e) ∧ j ≤ N) {d i l j l1 : Nat} {C C1 : pc_C} {s : pc_S} (hC : C.length ≤ i) (hi : i ≤ 400) (hp : pc_plain ord tk vl kt d i l C = .ok (j, l1, C1, s)) : evB μ g (f_X10_plainOf kB kP (f_X10_positiveOf jB jP jO kt') kT) i j (s e) := by
  have hN := h.1.1
  unfold pc_plain at hp
  intro live β0
  obtain ⟨n1, n2⟩ := ev_nots h (kB := kB) (kP := kP) (kO := f_X10_positiveOf jB jP jO kt') (kT := kT) live β0 (fun z4_2 μz4 => hm_b2 (f_X10_positiveOf jB jP jO kt' (zb live) μz4) fun x5 μ6 => (if x5 = z4_2 then some ((0 : Int32), μ6) else some ((1 : Int32), μ6))) 400 i false hm_fu hi (by omega) (fu_lt (by decide))
  obtain ⟨s0, rfl, q⟩ := ev_pos h (kB := jB) (kP := jP) (kO := jO) hk (Nat.le_trans hC (nots_le 400 i false).1) n2 hp
  obtain ⟨v, β, q1, q2⟩ := q live β0
  refine ⟨v != (pc_nots tk 400 i false).2, β, ?_, rB_nt q2⟩
  unfold f_X10_plainOf
  refine n1.trans ?_
  rw [q1, b2_some]
  cases v <;> cases (pc_nots tk 400 i false).2 <;> rfl
theorem ev_bothl (h : TKs μ g N tk vl ord e) {kB kP kO kT : Int32 → hm_M → Option (Int32 × hm_M)} {kp : Nat → Nat → pc_C → pc_R pc_S} (hk : ∀ i l C j l1 C1 s, C.length ≤ i → i ≤ 400 → kp i l C = .ok (j, l1, C1, s) → evB μ g kP i j (s e) ∧ i < j ∧ j ≤ N ∧ C1.length ≤ j) (live β0 : Bool) (E : Int32 → hm_M → Option (Int32 × hm_M)) : ∀ (m i l : Nat) (C : pc_C) (s : pc_S) (j l1 : Nat) (C1 : pc_C) (t : pc_S) (F : Nat) (v : Bool) (β : Bool), C.length ≤ i → i ≤ 400 → N ≤ m + i → m < F → rB live β0 (s e) v β → pc_lg tk 6 12 pc_an kp m i l C s = .ok (j, l1, C1, t) → ∃ w γ, f_X10_bothOf_L6 kB kP kO kT (zb live) E F (zb v) (es μ g i β) = E (zb w) (es μ g j γ) ∧ rB live β0 (t e) w γ := by
  have hN := h.1.1
  intro m
  induction m with
  | zero =>
    intro i l C s j l1 C1 t F v β hC hi hm hF hr hp
    cases hp
    obtain ⟨F, rfl⟩ : ∃ M, F = M + 1 := ⟨F - 1, by omega⟩
    refine ⟨v, β, ?_, hr⟩
    rw [f_X10_bothOf_L6, show (6 : Int32) = Int32.ofNat 6 from rfl, ev_pass h (by omega) (by omega), if_neg (by rw [h.2.2.1 _ (by omega)]; omega), b2_some, if_pos rfl]
  | succ m ih =>
    intro i l C s j l1 C1 t F v β hC hi hm hF hr hp
    obtain ⟨F, rfl⟩ : ∃ M, F = M + 1 := ⟨F - 1, by omega⟩
    unfold pc_lg at hp
    split at hp
    · rename_i c6
      obtain ⟨j2, l2, C2, t2, e1, hp⟩ := pc_b_ok hp
      have hiN := tk_N h (i := i) (by omega)
      have hl : (C ++ [((12, 0) : Int32 × Int32)]).length = C.length + 1 := by rw [List.length_append]; rfl
      obtain ⟨k1, k2, k3, k4⟩ := hk _ _ _ _ _ _ _ (by rw [hl]; omega) (by omega) e1
      obtain ⟨w, γ, q1, q2⟩ := k1 (live && v) β
      have := ih _ _ _ _ _ _ _ _ F (v && w) γ (by rw [leap_len]; exact k4) (by omega) (by omega) (by omega) (rB_an hr q2) hp
      obtain ⟨x, δ, q3, q4⟩ := this
      refine ⟨x, δ, ?_, q4⟩
      rw [← q3, f_X10_bothOf_L6, show (6 : Int32) = Int32.ofNat 6 from rfl, ev_pass h (by omega) (by omega), if_pos c6, b2_some, if_neg (by decide)]
      unfold f_X10_bothOf_J28 f_X10_bothOf_J29 f_X10_bothOf_J45 f_X10_bothOf_J46
      cases live with
      | false =>
        rw [if_pos (show zb false = 0 from rfl), show (0 : Int32) = zb (false && v) from rfl, q1, b2_some]
        cases v with
        | false => rw [if_pos (show zb false = zb (false && false) from rfl)]; rfl
        | true =>
          rw [if_neg (show ¬ zb true = zb (false && true) by decide)]
          cases w with
          | false => rw [if_pos (show zb false = zb (false && true) from rfl)]; rfl
          | true => rw [if_neg (show ¬ zb true = zb (false && true) by decide)]; rfl
      | true =>
        rw [if_neg (show ¬ zb true = 0 by decide)]
        cases v with
        | false =>
          rw [if_pos (show zb false = 0 from rfl), show (0 : Int32) = zb (true && false) from rfl, q1, b2_some, if_pos (show zb false = zb (true && false) from rfl)]
          rfl
        | true =>
          rw [if_neg (show ¬ zb true = 0 by decide), show (1 : Int32) = zb (true && true) from rfl, q1, b2_some, if_neg (show ¬ zb true = 0 by decide)]
          cases w with
          | false => rw [if_pos (show zb false = 0 from rfl)]; rfl
          | true => rw [if_neg (show ¬ zb true = 0 by decide)]
    · rename_i c6
      cases hp
      refine ⟨v, β, ?_, hr⟩
      rw [f_X10_bothOf_L6, show (6 : Int32) = Int32.ofNat 6 from rfl, ev_pass h (by omega) (by omega), if_neg c6, b2_some, if_pos rfl]
theorem ev_testl (h : TKs μ g N tk vl ord e) {kB kP kO kT : Int32 → hm_M → Option (Int32 × hm_M)} {kp : Nat → Nat → pc_C → pc_R pc_S} (hk : ∀ i l C j l1 C1 s, C.length ≤ i → i ≤ 400 → kp i l C = .ok (j, l1, C1, s) → evB μ g kB i j (s e) ∧ i < j ∧ j ≤ N ∧ C1.length ≤ j) (live β0 : Bool) (E : Int32 → hm_M → Option (Int32 × hm_M)) : ∀ (m i l : Nat) (C : pc_C) (s : pc_S) (j l1 : Nat) (C1 : pc_C) (t : pc_S) (F : Nat) (v : Bool) (β : Bool), C.length ≤ i → i ≤ 400 → N ≤ m + i → m < F → rB live β0 (s e) v β → pc_lg tk 5 11 pc_or kp m i l C s = .ok (j, l1, C1, t) → ∃ w γ, f_X10_testOf_L6 kB kP kO kT (zb live) E F (zb v) (es μ g i β) = E (zb w) (es μ g j γ) ∧ rB live β0 (t e) w γ := by
  have hN := h.1.1
  intro m
  induction m with
  | zero =>
    intro i l C s j l1 C1 t F v β hC hi hm hF hr hp
    cases hp
    obtain ⟨F, rfl⟩ : ∃ M, F = M + 1 := ⟨F - 1, by omega⟩
    refine ⟨v, β, ?_, hr⟩
    rw [f_X10_testOf_L6, show (5 : Int32) = Int32.ofNat 5 from rfl, ev_pass h (by omega) (by omega), if_neg (by rw [h.2.2.1 _ (by omega)]; omega), b2_some, if_pos rfl]
  | succ m ih =>
    intro i l C s j l1 C1 t F v β hC hi hm hF hr hp
    obtain ⟨F, rfl⟩ : ∃ M, F = M + 1 := ⟨F - 1, by omega⟩
    unfold pc_lg at hp
    split at hp
    · rename_i c5
      obtain ⟨j2, l2, C2, t2, e1, hp⟩ := pc_b_ok hp
      have hiN := tk_N h (i := i) (by omega)
      have hl : (C ++ [((11, 0) : Int32 × Int32)]).length = C.length + 1 := by rw [List.length_append]; rfl
      obtain ⟨k1, k2, k3, k4⟩ := hk _ _ _ _ _ _ _ (by rw [hl]; omega) (by omega) e1
      obtain ⟨w, γ, q1, q2⟩ := k1 (live && !v) β
      have := ih _ _ _ _ _ _ _ _ F (v || w) γ (by rw [leap_len]; exact k4) (by omega) (by omega) (by omega) (rB_or hr q2) hp
      obtain ⟨x, δ, q3, q4⟩ := this
      refine ⟨x, δ, ?_, q4⟩
      rw [← q3, f_X10_testOf_L6, show (5 : Int32) = Int32.ofNat 5 from rfl, ev_pass h (by omega) (by omega), if_pos c5, b2_some, if_neg (by decide)]
      unfold f_X10_testOf_J27 f_X10_testOf_J28 f_X10_testOf_J40 f_X10_testOf_J45
      cases live with
      | false =>
        rw [if_pos (show zb false = 0 from rfl), show (0 : Int32) = zb (false && !v) from rfl, q1, b2_some]
        cases v with
        | false =>
          rw [if_pos (show zb false = zb (false && !false) from rfl)]
          cases w with
          | false => rw [if_pos (show zb false = zb (false && !false) from rfl)]; rfl
          | true => rw [if_neg (show ¬ zb true = zb (false && !false) by decide)]; rfl
        | true => rw [if_neg (show ¬ zb true = zb (false && !true) by decide)]; rfl
      | true =>
        rw [if_neg (show ¬ zb true = 0 by decide)]
        cases v with
        | true =>
          rw [if_neg (show ¬ zb true = 0 by decide), show (0 : Int32) = zb (true && !true) from rfl, q1, b2_some, if_neg (show ¬ zb true = zb (true && !true) by decide)]
          rfl
        | false =>
          rw [if_pos (show zb false = 0 from rfl), show (1 : Int32) = zb (true && !false) from rfl, q1, b2_some, if_pos (show zb false = 0 from rfl)]
          cases w with
          | false => rw [if_pos (show zb false = 0 from rfl)]; rfl
          | true => rw [if_neg (show ¬ zb true = 0 by decide)]; rfl
    · rename_i c5
      cases hp
      refine ⟨v, β, ?_, hr⟩
      rw [f_X10_testOf_L6, show (5 : Int32) = Int32.ofNat 5 from rfl, ev_pass h (by omega) (by omega), if_neg c5, b2_some, if_pos rfl]
theorem ev_test (h : TKs μ g N tk vl ord e) : ∀ (n d i l : Nat) (C : pc_C) (j l1 : Nat) (C1 : pc_C) (s : pc_S) (M : Nat), 4 * n ≤ M → C.length ≤ i → i ≤ 400 → pc_test ord tk vl n d i l C = .ok (j, l1, C1, s) → evB μ g (K_X10_bothOf M).2.2.2 i j (s e) := by
  have hN := h.1.1
  have hW := h.2.2.1
  intro n
  induction n with
  | zero =>
    intro d i l C j l1 C1 s M _ _ _ hp
    cases hp
  | succ n ih =>
    intro d i l C j l1 C1 s M hM hC hi hp
    obtain ⟨M, rfl⟩ : ∃ K, M = K + 4 := ⟨M - 4, by omega⟩
    have tok : ∀ d i l C j l1 C1 s, C.length ≤ i → pc_test ord tk vl n d i l C = .ok (j, l1, C1, s) → okS N (if ord = true then 21 else 8) tS i l C j l1 C1 s := fun d i l C j l1 C1 s hc z => test_ok hW (by omega) rfl n d i l C j l1 C1 s hc z
    have evp : ∀ d i l C j l1 C1 s, C.length ≤ i → i ≤ 400 → pc_plain ord tk vl (pc_test ord tk vl n) d i l C = .ok (j, l1, C1, s) → evB μ g (K_X10_bothOf (M + 2)).2.1 i j (s e) ∧ i < j ∧ j ≤ N ∧ C1.length ≤ j := by
      intro d i l C j l1 C1 s hC hi z
      have ok := plain_ok (W := if ord = true then 21 else 8) hW rfl tok hC z
      have o3 := ok.1.2.2.1
      refine ⟨?_, ok.1.1, ok.1.2.2.2.1, by omega⟩
      refine ev_plain2 h (kB := (K_X10_bothOf (M + 1)).1) (kP := (K_X10_bothOf (M + 1)).2.1) (kT := (K_X10_bothOf (M + 1)).2.2.2) (jB := (K_X10_bothOf M).1) (jP := (K_X10_bothOf M).2.1) (jO := (K_X10_bothOf M).2.2.1) (kt' := (K_X10_bothOf M).2.2.2) (fun d i l C j l1 C1 s hc hi z => ⟨ih d i l C j l1 C1 s M (by omega) hc hi z, (tok _ _ _ _ _ _ _ _ hc z).1.2.2.2.1⟩) hC hi z
    have evb : ∀ d i l C j l1 C1 s, C.length ≤ i → i ≤ 400 → pc_both ord tk vl (pc_test ord tk vl n) d i l C = .ok (j, l1, C1, s) → evB μ g (K_X10_bothOf (M + 3)).1 i j (s e) ∧ i < j ∧ j ≤ N ∧ C1.length ≤ j := by
      intro d i l C j l1 C1 s hC hi z
      have ok := both_ok (W := if ord = true then 21 else 8) hW (by omega) rfl tok hC z
      have o3 := ok.1.2.2.1
      refine ⟨?_, ok.1.1, ok.1.2.2.2.1, by omega⟩
      unfold pc_both at z
      obtain ⟨j2, l2, C2, t, e1, z⟩ := pc_b_ok z
      obtain ⟨k1, k2, k3, k4⟩ := evp _ _ _ _ _ _ _ _ hC hi e1
      intro live β0
      obtain ⟨v, β, q1, q2⟩ := k1 live β0
      obtain ⟨w, γ, q3, q4⟩ := ev_bothl h (kB := (K_X10_bothOf (M + 2)).1) (kP := (K_X10_bothOf (M + 2)).2.1) (kO := (K_X10_bothOf (M + 2)).2.2.1) (kT := (K_X10_bothOf (M + 2)).2.2.2) (evp d) live β0 (fun z8_2 μz8 => Option.bind (hm_rz z8_2) fun x9 => some (x9, μz8)) 400 _ _ _ _ _ _ _ _ hm_fu v β k4 (by omega) (by omega) (fu_lt (by decide)) q2 z
      refine ⟨w, γ, ?_, q4⟩
      show f_X10_bothOf (K_X10_bothOf (M + 2)).1 (K_X10_bothOf (M + 2)).2.1 (K_X10_bothOf (M + 2)).2.2.1 (K_X10_bothOf (M + 2)).2.2.2 (zb live) (es μ g i β0) = _
      unfold f_X10_bothOf
      rw [q1, b2_some]
      refine q3.trans ?_
      rw [zb_rz]
      rfl
    unfold pc_test at hp
    obtain ⟨j2, l2, C2, t, e1, z⟩ := pc_b_ok hp
    obtain ⟨k1, k2, k3, k4⟩ := evb _ _ _ _ _ _ _ _ hC hi e1
    intro live β0
    obtain ⟨v, β, q1, q2⟩ := k1 live β0
    obtain ⟨w, γ, q3, q4⟩ := ev_testl h (kB := (K_X10_bothOf (M + 3)).1) (kP := (K_X10_bothOf (M + 3)).2.1) (kO := (K_X10_bothOf (M + 3)).2.2.1) (kT := (K_X10_bothOf (M + 3)).2.2.2) (evb d) live β0 (fun z8_2 μz8 => Option.bind (hm_rz z8_2) fun x9 => some (x9, μz8)) 400 _ _ _ _ _ _ _ _ hm_fu v β k4 (by omega) (by omega) (fu_lt (by decide)) q2 z
    refine ⟨w, γ, ?_, q4⟩
    show f_X10_testOf (K_X10_bothOf (M + 3)).1 (K_X10_bothOf (M + 3)).2.1 (K_X10_bothOf (M + 3)).2.2.1 (K_X10_bothOf (M + 3)).2.2.2 (zb live) (es μ g i β0) = _
    unfold f_X10_testOf
    rw [q1, b2_some]
    refine q3.trans ?_
    rw [zb_rz]
    rfl
end
end
