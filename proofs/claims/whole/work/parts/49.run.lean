section
/-! The machine's run, over the memory. -/
def tp (st : List Int32) : Int32 := Int32.ofNat st.length - 1
theorem tp_cons (x : Int32) (r : List Int32) : tp (x :: r) = Int32.ofNat r.length := by
  unfold tp
  rw [List.length_cons, ← n_add, n_lit 1]
  exact Int32.add_sub_cancel _ _
theorem tp_s (st : List Int32) : tp st + 1 = Int32.ofNat st.length := Int32.sub_add_cancel _ _
def sk (μ : hm_M) (a : Nat) : List Int32 → Prop
  | [] => True
  | x :: r => μ.1 a r.length = x ∧ sk μ a r
theorem sk_same {μ μ1 : hm_M} {a : Nat} : ∀ {st : List Int32}, sk μ a st → (∀ j, j < st.length → μ1.1 a j = μ.1 a j) → sk μ1 a st
  | [], _, _ => trivial
  | x :: r, h, hj => ⟨(hj r.length (by rw [List.length_cons]; omega)).trans h.1, sk_same h.2 fun j z => hj j (by rw [List.length_cons]; omega)⟩
/-- only the stack and the mark of what is broken have changed -/
def fm (o : Nat) (μ μ1 : hm_M) : Prop := μ1.2 = μ.2 ∧ ∀ a j, a ≠ o + 1 → ¬ (a = o ∧ j = 2) → μ1.1 a j = μ.1 a j
theorem fm_refl (o : Nat) (μ : hm_M) : fm o μ μ := ⟨rfl, fun _ _ _ _ => rfl⟩
theorem fm_b {o : Nat} {μ μ1 : hm_M} (h : fm o μ μ1) (x : Int32) : fm o μ (hm_wI μ1 o 2 x) := ⟨h.1, fun a j h1 h2 => by rw [wI_ne h2]; exact h.2 a j h1 h2⟩
theorem fm_s {o : Nat} {μ μ1 : hm_M} (h : fm o μ μ1) (k : Nat) (x : Int32) : fm o μ (hm_wI μ1 (o + 1) k x) := ⟨h.1, fun a j h1 h2 => by rw [wI_ne fun z => h1 z.1]; exact h.2 a j h1 h2⟩
theorem fm_trans {o : Nat} {μ μ1 μ2 : hm_M} (h : fm o μ μ1) (g : fm o μ1 μ2) : fm o μ μ2 := ⟨g.1.trans h.1, fun a j h1 h2 => (g.2 a j h1 h2).trans (h.2 a j h1 h2)⟩
section
variable {o p to : Nat} {v2 : Int32} {E : Int32 → hm_M → Option (Int32 × hm_M)} {μ : hm_M}
def pg9 (μ : hm_M) (p : Nat) (k : Nat) : Int32 × Int32 := (μ.1 (p + 1) k, μ.1 (p + 2) k)
theorem x4_end {N : Nat} {y4 y5 y6 : Int32} {μ1 : hm_M} (hb : μ1.1 o 2 = 1) : f_X4_run_L30 o p v2 (Int32.ofNat to) E (N + 1) y4 y5 y6 μ1 = E y4 μ1 := by
  have h1 : ¬ μ1.1 o 2 = 0 := by rw [hb]; decide
  simp only [f_X4_run_L30, if_neg h1]
  split
  · rfl
  · split <;> rfl
theorem bd_iff {x : Int32} {B : Nat} (hB : B ≤ 2147483647) : bd x B ↔ ¬ x < 0 ∧ x < Int32.ofNat B := by
  simp only [i_lt, n_toInt (show B < 2147483648 by omega), show (0 : Int32).toInt = 0 from rfl]
  constructor
  · rintro ⟨e, l⟩
    rw [e, n_toInt (by omega)]
    omega
  · rintro ⟨h1, h2⟩
    obtain ⟨n, rfl, e, l⟩ := v_of (x := x) (by omega)
    exact bd_n (by omega) (by omega)
theorem wo_some (op : Int32) (x y : Int64) : ∃ z, f_X4_workOut op x y = some z := by
  unfold f_X4_workOut
  by_cases h0 : op < 2 ∨ (8 : Int32) < op
  · rw [if_pos h0]
    split
    · exact ⟨_, rfl⟩
    · exact ⟨_, rfl⟩
  · have h : op = 2 ∨ op = 3 ∨ op = 4 ∨ op = 5 ∨ op = 6 ∨ op = 7 ∨ op = 8 := by
      simp only [i_lt, ← Int32.toInt_inj] at h0 ⊢
      have k2 : (2 : Int32).toInt = 2 := rfl
      have k3 : (3 : Int32).toInt = 3 := rfl
      have k4 : (4 : Int32).toInt = 4 := rfl
      have k5 : (5 : Int32).toInt = 5 := rfl
      have k6 : (6 : Int32).toInt = 6 := rfl
      have k7 : (7 : Int32).toInt = 7 := rfl
      have k8 : (8 : Int32).toInt = 8 := rfl
      rw [k2, k8] at h0
      rw [k2, k3, k4, k5, k6, k7, k8]
      omega
    have hh := h
    rcases h with rfl | rfl | rfl | rfl | rfl | rfl | rfl
    · exact ⟨_, wo_2 x y⟩
    · exact ⟨_, wo_3 x y⟩
    · exact ⟨_, wo_4 x y⟩
    · have e := wo_5 x y
      split at e <;> exact ⟨_, e⟩
    · have e := wo_6 x y
      split at e <;> exact ⟨_, e⟩
    · have e := wo_7 x y
      split at e <;> exact ⟨_, e⟩
    · have e := wo_8 x y
      split at e <;> exact ⟨_, e⟩
theorem n_pm (k : Nat) : Int32.ofNat (k + 1) + -Int32.ofNat 1 = Int32.ofNat k := by
  rw [← n_add, ← Int32.sub_eq_add_neg]
  exact Int32.add_sub_cancel _ _
theorem mq_none {e : Nat → Int32} {W : Nat} {prog : Nat → Int32 × Int32} {n a : Nat} {st : List Int32} (h : a < to) (hs : mq_step e W (prog a) a st = none) : mq_run e W prog to (n + 1) a st = none := by
  unfold mq_run
  rw [if_neg (by omega), hs]
  rfl
theorem mq_some {e : Nat → Int32} {W : Nat} {prog : Nat → Int32 × Int32} {n a b : Nat} {st st2 : List Int32} (h : a < to) (hs : mq_step e W (prog a) a st = some (b, st2)) : mq_run e W prog to (n + 1) a st = mq_run e W prog to n b st2 := by
  conv => lhs; unfold mq_run
  rw [if_neg (by omega), hs]
  rfl
theorem x4_loop {S : Nat} (ho : o + 2 < p) (hS : S ≤ 400) (hto : to ≤ S) (hl1 : S ≤ hm_ln μ (p + 1) ∧ hm_ln μ (p + 1) ≤ 400) (hl2 : S ≤ hm_ln μ (p + 2) ∧ hm_ln μ (p + 2) ≤ 400) (hW : hm_ln μ (o + 2) ≤ 100) : ∀ (n a i N : Nat) (st : List Int32) (μ1 : hm_M), to ≤ a + n → i ≤ a → a < 2147483648 → n < N → st.length ≤ 64 → sk μ1 (o + 1) st → fm o μ μ1 → μ1.1 o 2 = 0 → ∃ μ2, fm o μ μ2 ∧ match mq_run (μ.1 (o + 2)) (hm_ln μ (o + 2)) (pg9 μ p) to n a st with
    | none => μ2.1 o 2 = 1 ∧ ∃ y, f_X4_run_L30 o p v2 (Int32.ofNat to) E N (tp st) (Int32.ofNat a) (Int32.ofNat i) μ1 = E y μ2
    | some st2 => μ2.1 o 2 = 0 ∧ sk μ2 (o + 1) st2 ∧ f_X4_run_L30 o p v2 (Int32.ofNat to) E N (tp st) (Int32.ofNat a) (Int32.ofNat i) μ1 = E (tp st2) μ2 := by
  intro n
  induction n with
  | zero =>
    intro a i N st μ1 h1 h2 h2a h3 h4 h5 h6 h7
    obtain ⟨M, rfl⟩ : ∃ M, N = M + 1 := ⟨N - 1, by omega⟩
    refine ⟨μ1, h6, h7, h5, ?_⟩
    simp only [f_X4_run_L30]
    split
    · rfl
    · rw [if_pos]
      rw [n_le (by omega) h2a]
      omega
  | succ n ih =>
    intro a i N st μ1 h1 h2 h2a h3 h4 h5 h6 h7
    obtain ⟨M, rfl⟩ : ∃ M, N = M + 1 := ⟨N - 1, by omega⟩
    by_cases ha : to ≤ a
    · have e : mq_run (μ.1 (o + 2)) (hm_ln μ (o + 2)) (pg9 μ p) to (n + 1) a st = some st := if_pos ha
      rw [e]
      refine ⟨μ1, h6, h7, h5, ?_⟩
      simp only [f_X4_run_L30]
      split
      · rfl
      · rw [if_pos]
        rw [n_le (by omega) h2a]
        omega
    · have eL : hm_ln μ1 = hm_ln μ := congrArg (fun z => z.2.2.2.2) h6.1
      have l1 : hm_ld μ1 (p + 1) (hm_ln μ1 (p + 1)) (Int32.ofNat a) = some (μ.1 (p + 1) a) := by
        rw [eL, ld_n (by omega) (by omega), h6.2 _ _ (by omega) (by omega)]
      have l2 : hm_ld μ1 (p + 2) (hm_ln μ1 (p + 2)) (Int32.ofNat a) = some (μ.1 (p + 2) a) := by
        rw [eL, ld_n (by omega) (by omega), h6.2 _ _ (by omega) (by omega)]
      have go : ∀ (b : Nat) (st2 : List Int32) (μ2 : hm_M), mq_step (μ.1 (o + 2)) (hm_ln μ (o + 2)) (pg9 μ p a) a st = some (b, st2) → a + 1 ≤ b → b < 2147483648 → st2.length ≤ 64 → sk μ2 (o + 1) st2 → fm o μ μ2 → μ2.1 o 2 = 0 → f_X4_run_L30 o p v2 (Int32.ofNat to) E (M + 1) (tp st) (Int32.ofNat a) (Int32.ofNat i) μ1 = f_X4_run_L30 o p v2 (Int32.ofNat to) E M (tp st2) (Int32.ofNat b) (Int32.ofNat (i + 1)) μ2 → ∃ μ2, fm o μ μ2 ∧ match mq_run (μ.1 (o + 2)) (hm_ln μ (o + 2)) (pg9 μ p) to (n + 1) a st with
          | none => μ2.1 o 2 = 1 ∧ ∃ y, f_X4_run_L30 o p v2 (Int32.ofNat to) E (M + 1) (tp st) (Int32.ofNat a) (Int32.ofNat i) μ1 = E y μ2
          | some st2 => μ2.1 o 2 = 0 ∧ sk μ2 (o + 1) st2 ∧ f_X4_run_L30 o p v2 (Int32.ofNat to) E (M + 1) (tp st) (Int32.ofNat a) (Int32.ofNat i) μ1 = E (tp st2) μ2 := by
        intro b st2 μ2 k1 k2 k3 k4 k5 k6 k7 k8
        rw [mq_some (by omega) k1, k8]
        exact ih b (i + 1) M st2 μ2 (by omega) (by omega) k3 (by omega) k4 k5 k6 k7
      have bad : ∀ (y b j : Int32) (μ2 : hm_M), mq_step (μ.1 (o + 2)) (hm_ln μ (o + 2)) (pg9 μ p a) a st = none → fm o μ μ2 → μ2.1 o 2 = 1 → f_X4_run_L30 o p v2 (Int32.ofNat to) E (M + 1) (tp st) (Int32.ofNat a) (Int32.ofNat i) μ1 = f_X4_run_L30 o p v2 (Int32.ofNat to) E M y b j μ2 → ∃ μ2, fm o μ μ2 ∧ match mq_run (μ.1 (o + 2)) (hm_ln μ (o + 2)) (pg9 μ p) to (n + 1) a st with
          | none => μ2.1 o 2 = 1 ∧ ∃ y, f_X4_run_L30 o p v2 (Int32.ofNat to) E (M + 1) (tp st) (Int32.ofNat a) (Int32.ofNat i) μ1 = E y μ2
          | some st2 => μ2.1 o 2 = 0 ∧ sk μ2 (o + 1) st2 ∧ f_X4_run_L30 o p v2 (Int32.ofNat to) E (M + 1) (tp st) (Int32.ofNat a) (Int32.ofNat i) μ1 = E (tp st2) μ2 := by
        intro y b j μ2 k1 k2 k3 k4
        rw [mq_none (by omega) k1, k4]
        obtain ⟨M2, rfl⟩ : ∃ M2, M = M2 + 1 := ⟨M - 1, by omega⟩
        exact ⟨μ2, k2, k3, y, x4_end k3⟩
      have e0 : f_X4_run_L30 o p v2 (Int32.ofNat to) E (M + 1) (tp st) (Int32.ofNat a) (Int32.ofNat i) μ1 = (if μ.1 (p + 1) a = 0 then f_X4_run_J83 o p v2 (Int32.ofNat to) (f_X4_run_L30 o p v2 (Int32.ofNat to) E M) E (tp st) (Int32.ofNat a + 1) (Int32.ofNat i) (μ.1 (p + 1) a) (μ.1 (p + 2) a) μ1 else (if μ.1 (p + 1) a = 1 then f_X4_run_J83 o p v2 (Int32.ofNat to) (f_X4_run_L30 o p v2 (Int32.ofNat to) E M) E (tp st) (Int32.ofNat a + 1) (Int32.ofNat i) (μ.1 (p + 1) a) (μ.1 (p + 2) a) μ1 else (if 10 ≤ μ.1 (p + 1) a then f_X4_run_J171 o p v2 (Int32.ofNat to) (f_X4_run_L30 o p v2 (Int32.ofNat to) E M) E 0 (tp st) (tp st) (Int32.ofNat a + 1) (Int32.ofNat i) (μ.1 (p + 1) a) (μ.1 (p + 2) a) μ1 else f_X4_run_J171 o p v2 (Int32.ofNat to) (f_X4_run_L30 o p v2 (Int32.ofNat to) E M) E 1 (tp st) (tp st) (Int32.ofNat a + 1) (Int32.ofNat i) (μ.1 (p + 1) a) (μ.1 (p + 2) a) μ1))) := by
        conv => lhs; simp only [f_X4_run_L30]
        have q1 : ¬ (400 : Int32) ≤ Int32.ofNat i := by rw [n_lit, n_le (by omega) (by omega)]; omega
        have q2 : ¬ Int32.ofNat to ≤ Int32.ofNat a := by rw [n_le (by omega) (by omega)]; omega
        rw [if_neg q1, if_neg q2, if_pos h7, l1, Option.bind_some, l2, Option.bind_some]
      have eq9 : pg9 μ p a = (μ.1 (p + 1) a, μ.1 (p + 2) a) := rfl
      rw [eq9] at go bad
      generalize μ.1 (p + 1) a = op at e0 go bad
      generalize μ.1 (p + 2) a = arg at e0 go bad
      have ea : Int32.ofNat a + 1 = Int32.ofNat (a + 1) := n_add a 1
      have ei : Int32.ofNat i + 1 = Int32.ofNat (i + 1) := n_add i 1
      rw [ea] at e0
      have p0 : ∀ m : hm_M, hm_pZ m o 2 0 = some (hm_wI m o 2 0) := fun m => rfl
      have p1 : ∀ m : hm_M, hm_pZ m o 2 1 = some (hm_wI m o 2 1) := fun m => rfl
      have z10 : ¬ (1 : Int32) = 0 := by decide
      have z01 : ¬ (0 : Int32) = 1 := by decide
      by_cases c0 : op = 0
      · subst c0
        rw [if_pos rfl] at e0
        by_cases hl : st.length < 64
        · refine go (a + 1) (arg :: st) (hm_wI (hm_wI μ1 o 2 0) (o + 1) st.length arg) ?_ (by omega) (by omega) (by rw [List.length_cons]; omega) ⟨wI_at _ _ _ _, sk_same h5 fun j hj => ?_⟩ (fm_s (fm_b h6 0) _ _) ?_ ?_
          · simp only [mq_step, if_true, if_pos hl]
          · rw [wI_ne (by omega), wI_ne (by omega)]
          · rw [wI_ne (by omega), wI_at]
          · rw [e0, tp_cons]
            simp only [f_X4_run_J83, f_X4_run_J119, f_X4_run_J120, f_X4_run_J153, f_X4_run_J360, tp_s, p0, Option.bind_some, wI_at, if_true, if_neg z01, ei]
            rw [if_neg (by rw [n_lit, n_le (by omega) (by omega)]; omega), sd_n hl (by decide)]
            rfl
        · refine bad (Int32.ofNat st.length) (Int32.ofNat (a + 1)) (Int32.ofNat (i + 1)) (hm_wI μ1 o 2 1) ?_ (fm_b h6 1) (wI_at _ _ _ _) ?_
          · simp only [mq_step, if_true, if_neg hl]
          · rw [e0]
            simp only [f_X4_run_J83, f_X4_run_J115, f_X4_run_J120, f_X4_run_J360, tp_s, p1, Option.bind_some, wI_at, if_neg z10, ei]
            rw [if_pos (by rw [n_lit, n_le (by omega) (by omega)]; omega)]
      · rw [if_neg c0] at e0
        by_cases c1 : op = 1
        · subst c1
          rw [if_pos rfl] at e0
          by_cases hl : st.length < 64 ∧ bd arg (hm_ln μ (o + 2))
          · obtain ⟨b1, b2⟩ := (bd_iff (by omega)).mp hl.2
            have el : hm_ld (hm_wI μ1 o 2 0) (o + 2) (hm_ln μ (o + 2)) arg = some (μ.1 (o + 2) (nat arg)) := by
              conv => lhs; rw [hl.2.1]
              rw [ld_n hl.2.2 (by omega), wI_ne (by omega), h6.2 _ _ (by omega) (by omega)]
            refine go (a + 1) (μ.1 (o + 2) (nat arg) :: st) (hm_wI (hm_wI μ1 o 2 0) (o + 1) st.length (μ.1 (o + 2) (nat arg))) ?_ (by omega) (by omega) (by rw [List.length_cons]; omega) ⟨wI_at _ _ _ _, sk_same h5 fun j hj => ?_⟩ (fm_s (fm_b h6 0) _ _) ?_ ?_
            · simp only [mq_step, if_true, if_neg z10, if_pos hl]
            · rw [wI_ne (by omega), wI_ne (by omega)]
            · rw [wI_ne (by omega), wI_at]
            · have eL2 : hm_ln (hm_wI μ1 o 2 0) = hm_ln μ := eL
              rw [e0, tp_cons]
              simp only [f_X4_run_J83, f_X4_run_J119, f_X4_run_J120, f_X4_run_J153, f_X4_run_J360, tp_s, p0, Option.bind_some, wI_at, if_true, if_neg z10, ei, eL, eL2, if_neg b1, if_pos b2, el]
              rw [if_neg (by rw [n_lit, n_le (by omega) (by omega)]; omega), sd_n hl.1 (by decide)]
              rfl
          · refine bad (Int32.ofNat st.length) (Int32.ofNat (a + 1)) (Int32.ofNat (i + 1)) (hm_wI μ1 o 2 1) ?_ (fm_b h6 1) (wI_at _ _ _ _) ?_
            · simp only [mq_step, if_true, if_neg z10, if_neg hl]
            · rw [e0]
              simp only [f_X4_run_J83, f_X4_run_J115, f_X4_run_J119, f_X4_run_J120, f_X4_run_J360, tp_s, p1, Option.bind_some, wI_at, if_neg z10, if_true, ei, eL]
              by_cases hl1 : st.length < 64
              · rw [if_neg (by rw [n_lit, n_le (by omega) (by omega)]; omega)]
                have hb : ¬ (¬ arg < 0 ∧ arg < Int32.ofNat (hm_ln μ (o + 2))) := fun z => hl ⟨hl1, (bd_iff (by omega)).mpr z⟩
                by_cases q : arg < 0
                · rw [if_pos q]
                · rw [if_neg q, if_neg fun z => hb ⟨q, z⟩]
              · rw [if_pos (by rw [n_lit, n_le (by omega) (by omega)]; omega)]
        · rw [if_neg c1] at e0
          have t0 : ¬ (0 : Int32) ≤ tp [] := by decide
          have t1 : ¬ (1 : Int32) ≤ tp [] := by decide
          by_cases c10 : op = 10
          · subst c10
            rw [if_pos (by decide)] at e0
            match st, h4, h5, e0, go, bad with
            | [], h4, h5, e0, go, bad =>
              refine bad (tp []) (Int32.ofNat (a + 1)) (Int32.ofNat (i + 1)) (hm_wI μ1 o 2 1) ?_ (fm_b h6 1) (wI_at _ _ _ _) ?_
              · rfl
              · rw [e0]
                simp only [f_X4_run_J171, f_X4_run_J360, p1, Option.bind_some, if_neg t0, ei]
            | x :: r, h4, h5, e0, go, bad =>
              rw [List.length_cons] at h4
              refine go (a + 1) ((1 - x) :: r) (hm_wI μ1 (o + 1) r.length (1 - x)) ?_ (by omega) (by omega) (by rw [List.length_cons]; omega) ⟨wI_at _ _ _ _, sk_same h5.2 fun j hj => ?_⟩ (fm_s h6 _ _) ?_ ?_
              · rfl
              · rw [wI_ne (by omega)]
              · rw [wI_ne (by omega)]; exact h7
              · rw [e0, tp_cons, tp_cons]
                simp only [f_X4_run_J171, f_X4_run_J360, if_true, ei]
                rw [if_pos (by rw [n_lit, n_le (by omega) (by omega)]; omega), ld_n (by omega) (by decide), Option.bind_some, sd_n (by omega) (by decide), Option.bind_some, h5.1]
          · by_cases c11 : (10 : Int32) < op
            · have c10' : (10 : Int32) ≤ op := Int32.le_of_lt c11
              have c10n : ¬ op ≤ 10 := by
                simp only [i_lt, i_le] at c11 ⊢
                omega
              rw [if_pos c10'] at e0
              match st, h4, h5, e0, go, bad with
              | [], h4, h5, e0, go, bad =>
                refine bad (tp []) (Int32.ofNat (a + 1)) (Int32.ofNat (i + 1)) (hm_wI μ1 o 2 1) ?_ (fm_b h6 1) (wI_at _ _ _ _) ?_
                · simp only [mq_step, if_neg c0, if_neg c1, if_neg c10, if_pos c11]
                · rw [e0]
                  simp only [f_X4_run_J171, f_X4_run_J360, p1, Option.bind_some, if_neg t0, ei]
              | x :: r, h4, h5, e0, go, bad =>
                rw [List.length_cons] at h4
                have es : mq_step (μ.1 (o + 2)) (hm_ln μ (o + 2)) (op, arg) a (x :: r) = if x = (if op = 11 then 1 else 0) then some (if a + 1 < nat arg then nat arg else a + 1, x :: r) else some (a + 1, r) := by
                  simp only [mq_step, if_neg c0, if_neg c1, if_neg c10, if_pos c11]
                have e2 : f_X4_run_L30 o p v2 (Int32.ofNat to) E (M + 1) (tp (x :: r)) (Int32.ofNat a) (Int32.ofNat i) μ1 = f_X4_run_J234 o p v2 (Int32.ofNat to) (f_X4_run_L30 o p v2 (Int32.ofNat to) E M) E (if op = 11 then 1 else 0) x (Int32.ofNat r.length) (Int32.ofNat (a + 1)) (Int32.ofNat i) arg μ1 := by
                  rw [e0, tp_cons]
                  simp only [f_X4_run_J171, if_neg c10, if_neg c10n]
                  rw [if_pos (by rw [n_lit, n_le (by omega) (by omega)]; omega), ld_n (by omega) (by decide), Option.bind_some, h5.1]
                  split <;> rfl
                by_cases hx : x = (if op = 11 then 1 else 0)
                · rw [if_pos hx] at es
                  have hna : nat arg < 2147483648 := by
                    have := Int32.toInt_lt arg
                    unfold nat Int32.toNatClampNeg
                    omega
                  refine go _ _ μ1 es (by split <;> omega) (by split <;> omega) (by rw [List.length_cons]; omega) h5 h6 h7 ?_
                  rw [e2, tp_cons]
                  simp only [f_X4_run_J234, f_X4_run_J242, f_X4_run_J261, f_X4_run_J263, f_X4_run_J279, f_X4_run_J360, if_pos hx, if_neg z10, ei]
                  by_cases hq : a + 1 < nat arg
                  · have ex : arg = Int32.ofNat (nat arg) := by
                      by_cases q : arg < 0
                      · exfalso
                        have : nat arg = 0 := by
                          unfold nat Int32.toNatClampNeg
                          simp only [i_lt, show (0 : Int32).toInt = 0 from rfl] at q
                          omega
                        omega
                      · obtain ⟨w, hw, rfl⟩ := n_of q
                        rw [nat_n hw]
                    rw [if_pos hq]
                    conv => lhs; rw [ex]
                    rw [if_neg]
                    rw [n_le hna (by omega)]
                    omega
                  · rw [if_neg hq, if_pos]
                    by_cases q : arg < 0
                    · simp only [i_lt, i_le, show (0 : Int32).toInt = 0 from rfl, n_toInt (show a + 1 < 2147483648 by omega)] at q ⊢
                      omega
                    · obtain ⟨w, hw, rfl⟩ := n_of q
                      rw [nat_n hw] at hq
                      rw [n_le hw (by omega)]
                      omega
                · rw [if_neg hx] at es
                  refine go _ _ μ1 es (by omega) (by omega) (by omega) h5.2 h6 h7 ?_
                  rw [e2]
                  simp only [f_X4_run_J234, f_X4_run_J242, f_X4_run_J261, f_X4_run_J263, f_X4_run_J279, f_X4_run_J360, if_neg hx, if_true, ei]
                  rfl
            · have c9 : ¬ (10 : Int32) ≤ op := fun z => by
                simp only [i_lt, i_le] at c11 z
                exact c10 (Int32.toInt_inj.mp (by omega))
              have c9' : op ≤ 10 := by
                simp only [i_lt, i_le] at c11 ⊢
                omega
              rw [if_neg c9] at e0
              match st, h4, h5, e0, go, bad with
              | [], h4, h5, e0, go, bad =>
                refine bad (tp []) (Int32.ofNat (a + 1)) (Int32.ofNat (i + 1)) (hm_wI μ1 o 2 1) ?_ (fm_b h6 1) (wI_at _ _ _ _) ?_
                · simp only [mq_step, if_neg c0, if_neg c1, if_neg c10, if_neg c11]
                · rw [e0]
                  simp only [f_X4_run_J171, f_X4_run_J360, p1, Option.bind_some, if_neg t1, ei]
              | [x], h4, h5, e0, go, bad =>
                refine bad (tp [x]) (Int32.ofNat (a + 1)) (Int32.ofNat (i + 1)) (hm_wI μ1 o 2 1) ?_ (fm_b h6 1) (wI_at _ _ _ _) ?_
                · simp only [mq_step, if_neg c0, if_neg c1, if_neg c10, if_neg c11]
                · have t2 : ¬ (1 : Int32) ≤ tp [x] := by rw [tp_cons]; decide
                  rw [e0]
                  simp only [f_X4_run_J171, f_X4_run_J360, p1, Option.bind_some, if_neg t2, ei]
              | y :: x :: r, h4, h5, e0, go, bad =>
                rw [List.length_cons, List.length_cons] at h4
                obtain ⟨z, hz⟩ := wo_some op x.toInt64 y.toInt64
                have es : mq_step (μ.1 (o + 2)) (hm_ln μ (o + 2)) (op, arg) a (y :: x :: r) = (pc_op op x y).bind fun v => some (a + 1, v :: r) := by
                  simp only [mq_step, if_neg c0, if_neg c1, if_neg c10, if_neg c11]
                have eo : pc_op op x y = if 0 < lg_cmp z 1000000000 then none else if 0 ≤ lg_cmp z (-1000000000) then some z.toInt32 else none := by
                  unfold pc_op
                  rw [hz]
                  rfl
                have ek : Int32.ofNat (r.length + 1) + -1 = Int32.ofNat r.length := n_pm _
                have ek1 : Int32.ofNat r.length + 1 = Int32.ofNat (r.length + 1) := n_add _ 1
                have h51 := h5.1
                rw [List.length_cons] at h51
                have e2 : f_X4_run_L30 o p v2 (Int32.ofNat to) E (M + 1) (tp (y :: x :: r)) (Int32.ofNat a) (Int32.ofNat i) μ1 = if 0 < lg_cmp z 1000000000 then f_X4_run_J331 o p v2 (Int32.ofNat to) (f_X4_run_L30 o p v2 (Int32.ofNat to) E M) E (Int32.ofNat r.length) (Int32.ofNat (a + 1)) (Int32.ofNat i) z μ1 else if 0 ≤ lg_cmp z (-1000000000) then f_X4_run_J336 o p v2 (Int32.ofNat to) (f_X4_run_L30 o p v2 (Int32.ofNat to) E M) E 0 (Int32.ofNat r.length) (Int32.ofNat (a + 1)) (Int32.ofNat i) z μ1 else f_X4_run_J331 o p v2 (Int32.ofNat to) (f_X4_run_L30 o p v2 (Int32.ofNat to) E M) E (Int32.ofNat r.length) (Int32.ofNat (a + 1)) (Int32.ofNat i) z μ1 := by
                  rw [e0, tp_cons, List.length_cons]
                  simp only [f_X4_run_J171, if_neg c10, if_pos c9']
                  rw [if_pos (by rw [n_lit, n_le (by omega) (by omega)]; omega), ek, ek1, ld_n (by omega) (by decide), Option.bind_some, ld_n (by omega) (by decide), Option.bind_some, h51, h5.2.1, hz, Option.bind_some]
                have eb : f_X4_run_J331 o p v2 (Int32.ofNat to) (f_X4_run_L30 o p v2 (Int32.ofNat to) E M) E (Int32.ofNat r.length) (Int32.ofNat (a + 1)) (Int32.ofNat i) z μ1 = f_X4_run_L30 o p v2 (Int32.ofNat to) E M (Int32.ofNat r.length) (Int32.ofNat (a + 1)) (Int32.ofNat (i + 1)) (hm_wI (hm_wI μ1 o 2 1) (o + 1) r.length 0) := by
                  simp only [f_X4_run_J331, f_X4_run_J336, f_X4_run_J359, f_X4_run_J360, p1, Option.bind_some, wI_at, if_neg z10, ei]
                  rw [sd_n (by omega) (by decide)]
                  rfl
                have fb : fm o μ (hm_wI (hm_wI μ1 o 2 1) (o + 1) r.length 0) := fm_s (fm_b h6 1) _ _
                have fb2 : (hm_wI (hm_wI μ1 o 2 1) (o + 1) r.length 0).1 o 2 = 1 := by rw [wI_ne (by omega), wI_at]
                by_cases q1 : 0 < lg_cmp z 1000000000
                · rw [if_pos q1] at e2 eo
                  exact bad _ _ _ _ (by rw [es, eo]; rfl) fb fb2 (e2.trans eb)
                · rw [if_neg q1] at e2 eo
                  by_cases q2 : 0 ≤ lg_cmp z (-1000000000)
                  · rw [if_pos q2] at e2 eo
                    refine go (a + 1) (z.toInt32 :: r) (hm_wI (hm_wI μ1 o 2 0) (o + 1) r.length z.toInt32) (by rw [es, eo]; rfl) (by omega) (by omega) (by rw [List.length_cons]; omega) ⟨wI_at _ _ _ _, sk_same h5.2.2 fun j hj => ?_⟩ (fm_s (fm_b h6 0) _ _) ?_ ?_
                    · rw [wI_ne (by omega), wI_ne (by omega)]
                    · rw [wI_ne (by omega), wI_at]
                    · rw [e2, tp_cons]
                      simp only [f_X4_run_J336, f_X4_run_J359, f_X4_run_J360, p0, Option.bind_some, wI_at, if_true, ei]
                      rw [sd_n (by omega) (by decide)]
                      rfl
                  · rw [if_neg q2] at e2 eo
                    exact bad _ _ _ _ (by rw [es, eo]; rfl) fb fb2 (e2.trans eb)
/-- a run over a segment -/
theorem x4_run {S a b : Nat} {s : Option Int32} {h : Nat} (ho : o + 2 < p) (hS : S ≤ 400) (hab : a ≤ b) (hto : b ≤ S) (hs : μ.1 p 3 = Int32.ofNat S) (hl1 : S ≤ hm_ln μ (p + 1) ∧ hm_ln μ (p + 1) ≤ 400) (hl2 : S ≤ hm_ln μ (p + 2) ∧ hm_ln μ (p + 2) ≤ 400) (hW : hm_ln μ (o + 2) ≤ 100) (hg : sg (μ.1 (o + 2)) (hm_ln μ (o + 2)) (pg9 μ p) a b s h) (hh : h ≤ 64) : ∃ μ2, fm o μ μ2 ∧ ((s = none ∧ μ2.1 o 2 = 1 ∧ f_X4_run o p (Int32.ofNat a) (Int32.ofNat b) μ = some (0, μ2)) ∨ ∃ v, s = some v ∧ μ2.1 o 2 = 0 ∧ f_X4_run o p (Int32.ofNat a) (Int32.ofNat b) μ = some (v, μ2)) := by
  have e0 : f_X4_run o p (Int32.ofNat a) (Int32.ofNat b) μ = f_X4_run_L30 o p (Int32.ofNat a) (Int32.ofNat b) (fun z17_4 μz17 => f_X4_run_J366 o p (Int32.ofNat a) (Int32.ofNat b) z17_4 μz17) hm_fu (tp []) (Int32.ofNat a) (Int32.ofNat 0) (hm_wI μ o 2 0) := by
    unfold f_X4_run f_X4_run_J18
    rw [if_neg (n_nn (by omega)), hs, if_pos (by rw [n_le (by omega) (by omega)]; exact hto)]
    rfl
  obtain ⟨μ2, f1, f2⟩ := x4_loop (o := o) (p := p) (to := b) (v2 := Int32.ofNat a) (E := fun z17_4 μz17 => f_X4_run_J366 o p (Int32.ofNat a) (Int32.ofNat b) z17_4 μz17) (μ := μ) ho hS hto hl1 hl2 hW (b - a) a 0 hm_fu [] (hm_wI μ o 2 0) (by omega) (by omega) (by omega) (fu_lt (by omega)) (by simp) trivial (fm_b (fm_refl o μ) 0) (wI_at _ _ _ _)
  obtain ⟨m, l1, e1⟩ := hg b [] (b - a) (Nat.le_refl _) (by omega) (by simpa using hh)
  have e2 : ∀ v, mq_run (μ.1 (o + 2)) (hm_ln μ (o + 2)) (pg9 μ p) b m b [v] = some [v] := fun v => by
    cases m with
    | zero => rfl
    | succ m => exact if_pos (Nat.le_refl _)
  refine ⟨μ2, f1, ?_⟩
  rw [e1] at f2
  cases s with
  | none =>
    obtain ⟨g1, y, g2⟩ := f2
    refine Or.inl ⟨rfl, g1, ?_⟩
    rw [e0, g2]
    unfold f_X4_run_J366
    rw [if_neg (by rw [g1]; decide)]
  | some v =>
    rw [Option.bind_some, e2] at f2
    obtain ⟨g1, g2, g3⟩ := f2
    refine Or.inr ⟨v, rfl, g1, ?_⟩
    rw [e0, g3]
    show f_X4_run_J366 o p (Int32.ofNat a) (Int32.ofNat b) (tp [v]) μ2 = _
    unfold f_X4_run_J366
    rw [if_pos g1, tp_cons, if_pos (by decide), n_lit 0, ld_n (by decide) (by decide), Option.bind_some]
    exact congrArg (fun z => some (z, μ2)) g2.1
theorem x4_run0 {S a : Nat} (ho : o + 2 < p) (hS : S ≤ 400) (hto : a ≤ S) (hs : μ.1 p 3 = Int32.ofNat S) : ∃ μ2, fm o μ μ2 ∧ μ2.1 o 2 = 0 ∧ f_X4_run o p (Int32.ofNat a) (Int32.ofNat a) μ = some (0, μ2) := by
  refine ⟨hm_wI μ o 2 0, fm_b (fm_refl o μ) 0, wI_at _ _ _ _, ?_⟩
  unfold f_X4_run f_X4_run_J18
  rw [if_neg (n_nn (by omega)), hs, if_pos (by rw [n_le (by omega) (by omega)]; exact hto)]
  obtain ⟨F, hF⟩ : ∃ F, hm_fu = F + 1 := ⟨999999, rfl⟩
  rw [hF]
  show f_X4_run_L30 o p (Int32.ofNat a) (Int32.ofNat a) _ (F + 1) _ _ _ (hm_wI μ o 2 0) = _
  simp only [f_X4_run_L30]
  rw [if_neg (by decide), if_pos (by rw [n_le (by omega) (by omega)]; omega)]
  unfold f_X4_run_J366
  rw [if_pos (wI_at _ _ _ _), if_neg (by decide)]
end
end
