section
/-! What a law tells: by its program, by its tokens. -/
theorem sg_up {e : Nat → Int32} {W : Nat} {prog : Nat → Int32 × Int32} {a b h h2 : Nat} {s : Option Int32} (g : sg e W prog a b s h) (hh : h ≤ h2) : sg e W prog a b s h2 := fun to st n h1 h3 h4 => g to st n h1 h3 (by omega)
theorem mq_cong {e e1 : Nat → Int32} {W : Nat} {prog : Nat → Int32 × Int32} {to : Nat} (he : ∀ k, k < W → e1 k = e k) : ∀ (n a : Nat) (st : List Int32), mq_run e1 W prog to n a st = mq_run e W prog to n a st := by
  have hs : ∀ (c : Int32 × Int32) (a : Nat) (st : List Int32), mq_step e1 W c a st = mq_step e W c a st := by
    intro c a st
    unfold mq_step
    by_cases h : st.length < 64 ∧ bd c.2 W
    · rw [if_pos h, he _ h.2.2]
      simp only [if_pos h]
    · simp only [if_neg h]
  intro n
  induction n with
  | zero => intro a st; rfl
  | succ n ih =>
    intro a st
    unfold mq_run
    rw [hs]
    simp only [ih]
theorem sg_cong {e e1 : Nat → Int32} {W : Nat} {prog : Nat → Int32 × Int32} {a b h : Nat} {s : Option Int32} (g : sg e W prog a b s h) (he : ∀ k, k < W → e1 k = e k) : sg e1 W prog a b s h := by
  intro to st n h1 h2 h3
  obtain ⟨m, q1, q2⟩ := g to st n h1 h2 h3
  refine ⟨m, q1, ?_⟩
  rw [mq_cong he]
  simp only [mq_cong he]
  exact q2
def sgz (W : Nat) (prog : Nat → Int32 × Int32) (a b : Nat) (s : pc_S) : Prop := (a = b ∧ s = pc_z) ∨ (a < b ∧ bS s ∧ ∀ e, sg e W prog a b (s e) 50)
def sgt (W : Nat) (prog : Nat → Int32 × Int32) (a b : Nat) : Option pc_S → Prop
  | none => a = b
  | some t => a < b ∧ tS t ∧ ∀ e, sg e W prog a b (t e) 50
def clOK (W : Nat) (prog : Nat → Int32 × Int32) (k : pc_K) : Prop := sgz W prog k.1.2.1 k.1.2.2.1 k.2.1 ∧ sgz W prog k.1.2.2.1 k.1.2.2.2.1 k.2.2.1 ∧ sgt W prog k.1.2.2.2.1 k.1.2.2.2.2.1 k.2.2.2 ∧ k.1.2.2.2.2.1 ≤ 400 ∧ (k.1.1 < 4 ∧ 1 ≤ k.1.2.2.2.2.2 ∧ k.1.2.2.2.2.2 ≤ 20) ∧ (W = 8 → k.1.2.2.1 = k.1.2.2.2.1)
section
variable {N : Nat} {ord : Bool} {tk vl : Nat → Nat}
/-- what a piece of a text leaves -/
def okT (N i l : Nat) (C : pc_C) (j l1 : Nat) (C1 : pc_C) : Prop := i ≤ j ∧ l ≤ l1 ∧ C1.length + i ≤ C.length + j ∧ j ≤ N ∧ l1 ≤ 50 ∧ pc_pre C C1
theorem if_okT (hN : ∀ k, N ≤ k → tk k = 0) (hN4 : N ≤ 400) {j l j1 l1 : Nat} {C C1 : pc_C} {t : Option pc_S} (hC : C.length ≤ j) (hj : j ≤ N) (hl : l ≤ 50) (h : pc_if ord tk vl j l C = .ok (j1, l1, C1, t)) : okT N j l C j1 l1 C1 ∧ ∀ prog, pc_mt prog 0 C1 → sgt (if ord = true then 21 else 8) prog C.length C1.length t := by
  unfold pc_if at h
  split at h
  · obtain ⟨j2, l2, C2, s, e1, h⟩ := pc_b_ok h
    cases h
    obtain ⟨⟨a1, a2, a3, a4, a5⟩, b, c, d⟩ := test_ok (W := if ord = true then 21 else 8) hN (by omega) rfl _ _ _ _ _ _ _ _ _ (by omega) e1
    refine ⟨⟨by omega, by omega, by omega, by omega, by omega, b⟩, fun prog hm => ⟨?_, c, fun e => sg_up (d prog (mt_up hm (Nat.zero_le _)) e) (by omega)⟩⟩
    rcases Nat.lt_or_ge C.length C1.length with q | q
    · exact q
    · exfalso
      have hle : C1.length = C.length := Nat.le_antisymm q b.1
      have := d (fun k => C1.getD k (0, 0)) (fun k x _ hx => by show C1.getD k (0, 0) = x; rw [List.getD_eq_getElem?_getD, hx]; rfl) (fun _ => 0)
      obtain ⟨m, hm1, hm2⟩ := this C1.length [] 0 (Nat.le_refl _) (by omega) (by simp only [List.length_nil]; omega)
      cases hs : s (fun _ => 0) with
      | none => rw [hs] at hm2; cases hm2
      | some v =>
        rw [hs] at hm2
        have : mq_run (fun _ => 0) (if ord = true then 21 else 8) (fun k => C1.getD k (0, 0)) C1.length m C1.length [v] = some [v] := by
          cases m with
          | zero => rfl
          | succ m => exact if_pos (Nat.le_refl _)
        rw [Option.bind_some, this] at hm2
        cases hm2
  · cases h
    exact ⟨⟨by omega, by omega, by omega, by omega, by omega, pre_refl _⟩, fun _ _ => rfl⟩
theorem sum_okT (hN : ∀ k, N ≤ k → tk k = 0) {d i l j l1 : Nat} {C C1 : pc_C} {s : pc_S} (h : pc_sum ord tk vl 10 d i l C = .ok (j, l1, C1, s)) : (okT N i l C j l1 C1 ∧ i < j) ∧ ∀ prog, pc_mt prog 0 C1 → sgz (if ord = true then 21 else 8) prog C.length C1.length s := by
  obtain ⟨⟨a1, a2, a3, a4, a5⟩, b, c, d⟩ := sum_ok (W := if ord = true then 21 else 8) hN rfl _ _ _ _ _ _ _ _ _ h
  refine ⟨⟨⟨by omega, by omega, by omega, by omega, by omega, b⟩, a1⟩, fun prog hm => Or.inr ⟨?_, c, fun e => sg_up (d prog (mt_up hm (Nat.zero_le _)) e) (by omega)⟩⟩
  rcases Nat.lt_or_ge C.length C1.length with q | q
  · exact q
  · exfalso
    have := d (fun k => C1.getD k (0, 0)) (fun k x _ hx => by show C1.getD k (0, 0) = x; rw [List.getD_eq_getElem?_getD, hx]; rfl) (fun _ => 0)
    have hle : C1.length = C.length := Nat.le_antisymm q b.1
    obtain ⟨m, hm1, hm2⟩ := this C1.length [] 0 (Nat.le_refl _) (by omega) (by simp only [List.length_nil]; omega)
    cases hs : s (fun _ => 0) with
    | none => rw [hs] at hm2; cases hm2
    | some v =>
      rw [hs] at hm2
      have : mq_run (fun _ => 0) (if ord = true then 21 else 8) (fun k => C1.getD k (0, 0)) C1.length m C1.length [v] = some [v] := by
        cases m with
        | zero => rfl
        | succ m => exact if_pos (Nat.le_refl _)
      rw [Option.bind_some, this] at hm2
      cases hm2
theorem okT_trans {i l j l1 k l2 : Nat} {C C1 C2 : pc_C} (h : okT N i l C j l1 C1) (g : okT N j l1 C1 k l2 C2) : okT N i l C k l2 C2 := by
  obtain ⟨a1, a2, a3, a4, a5, a6⟩ := h
  obtain ⟨b1, b2, b3, b4, b5, b6⟩ := g
  exact ⟨by omega, by omega, by omega, by omega, by omega, pre_trans a6 b6⟩
theorem okT_1 {i i0 l j l1 : Nat} {C C1 : pc_C} (h : okT N i l C j l1 C1) (h0 : i0 ≤ i) : okT N i0 l C j l1 C1 := by
  obtain ⟨a1, a2, a3, a4, a5, a6⟩ := h
  exact ⟨by omega, by omega, by omega, by omega, by omega, a6⟩
theorem law1_ok (hN : ∀ k, N ≤ k → tk k = 0) (hN4 : N ≤ 400) {i l j l1 : Nat} {C C1 : pc_C} {k : pc_K} (hC : C.length ≤ i) (hl : l ≤ 50) (h : pc_law1 tk vl i l C = .ok (j, l1, C1, k)) : (okT N i l C j l1 C1 ∧ i < j ∧ k.1.2.2.2.2.1 = C1.length) ∧ ∀ prog, pc_mt prog 0 C1 → clOK 8 prog k := by
  unfold pc_law1 at h
  split at h
  · cases h
  · rename_i h9
    have hi : i < N := by
      rcases Nat.lt_or_ge i N with q | q
      · exact q
      · rw [hN i q] at h9; exact absurd rfl h9
    split at h
    · rename_i h2
      obtain ⟨j2, l2, C2, t, e1, h⟩ := pc_b_ok h
      cases h
      obtain ⟨a, b⟩ := if_okT hN hN4 (by omega) (by omega) hl e1
      refine ⟨⟨okT_1 a (by omega), by have := a.1; omega, rfl⟩, fun prog hm => ⟨Or.inl ⟨rfl, rfl⟩, Or.inl ⟨rfl, rfl⟩, b prog hm, ?_, ⟨show 2 < 4 by decide, show 1 ≤ 1 by decide, show 1 ≤ 20 by decide⟩, fun _ => rfl⟩⟩
      have := a.2.2.1
      have := a.2.2.2.1
      show C1.length ≤ 400
      omega
    · rename_i h2
      obtain ⟨j2, l2, C2, s, e1, h⟩ := pc_b_ok h
      obtain ⟨j3, l3, C3, t, e2, h⟩ := pc_b_ok h
      cases h
      obtain ⟨⟨a, a2⟩, b⟩ := sum_okT hN e1
      have a3 := a.2.2.1
      have a4 := a.2.2.2.1
      have a5 := a.2.2.2.2.1
      obtain ⟨c, d⟩ := if_okT hN hN4 (by omega) (by omega) (by omega) e2
      have c3 := c.2.2.1
      have c4 := c.2.2.2.1
      refine ⟨⟨okT_1 (okT_trans a c) (by omega), by have := c.1; omega, rfl⟩, fun prog hm => ⟨b prog (mt_pre hm c.2.2.2.2.2), Or.inl ⟨rfl, rfl⟩, d prog hm, ?_, ⟨?_, show 1 ≤ 1 by decide, show 1 ≤ 20 by decide⟩, fun _ => rfl⟩⟩
      · show C1.length ≤ 400
        omega
      · show pc_headL (tk i) < 4
        unfold pc_headL at h9 ⊢
        repeat' split
        all_goals first | omega | (simp_all; done)
theorem tail_ok (hN : ∀ k, N ≤ k → tk k = 0) (hN4 : N ≤ 400) {hd a e1 i l j l1 : Nat} {s1 s2 : pc_S} {C C1 : pc_C} {k : pc_K} (hC : C.length ≤ i) (hi : i ≤ N) (hl : l ≤ 50) (hh : hd < 4) (h : pc_tail tk vl hd a e1 s1 s2 i l C = .ok (j, l1, C1, k)) : (okT N i l C j l1 C1 ∧ k.1.2.2.2.2.1 = C1.length) ∧ ∀ prog, pc_mt prog 0 C1 → sgz 21 prog a e1 s1 → sgz 21 prog e1 C.length s2 → clOK 21 prog k := by
  unfold pc_tail at h
  split at h
  · cases h
  · rename_i j1 n ht
    obtain ⟨j2, l2, C2, t, e2, h⟩ := pc_b_ok h
    cases h
    have h1 : i ≤ j1 ∧ j1 ≤ N ∧ 1 ≤ n ∧ n ≤ 20 := by
      unfold pc_times at ht
      split at ht
      · split at ht
        · rename_i q
          cases ht
          have : i + 1 < N := by
            rcases Nat.lt_or_ge (i + 1) N with z | z
            · exact z
            · rw [hN _ z] at q; omega
          omega
        · cases ht
      · cases ht
        omega
    obtain ⟨c, d⟩ := if_okT hN hN4 (by omega) (by omega) hl e2
    have c3 := c.2.2.1
    have c4 := c.2.2.2.1
    refine ⟨⟨okT_1 c (by omega), rfl⟩, fun prog hm g1 g2 => ⟨g1, g2, d prog hm, ?_, ⟨hh, h1.2.2⟩, fun z => by omega⟩⟩
    show C1.length ≤ 400
    omega
theorem ord1_ok (hN : ∀ k, N ≤ k → tk k = 0) (hN4 : N ≤ 400) {i l j l1 : Nat} {C C1 : pc_C} {k : pc_K} (hC : C.length ≤ i) (hl : l ≤ 50) (h : pc_ord1 tk vl i l C = .ok (j, l1, C1, k)) : (okT N i l C j l1 C1 ∧ i < j ∧ k.1.2.2.2.2.1 = C1.length) ∧ ∀ prog, pc_mt prog 0 C1 → clOK 21 prog k := by
  unfold pc_ord1 at h
  split at h
  · cases h
  · rename_i h9
    have hi : i < N := by
      rcases Nat.lt_or_ge i N with q | q
      · exact q
      · rw [hN i q] at h9; exact absurd rfl h9
    split at h
    · obtain ⟨⟨a, a9⟩, b⟩ := tail_ok hN hN4 (by omega) (by omega) hl (by decide) h
      exact ⟨⟨okT_1 a (by omega), by have := a.1; omega, a9⟩, fun prog hm => b prog hm (Or.inl ⟨rfl, rfl⟩) (Or.inl ⟨rfl, rfl⟩)⟩
    · rename_i h3
      obtain ⟨j2, l2, C2, s, e1, h⟩ := pc_b_ok h
      split at h
      · rename_i hj
        obtain ⟨j3, l3, C3, s3, e2, h⟩ := pc_b_ok h
        obtain ⟨⟨a, a2⟩, b⟩ := sum_okT hN e1
        obtain ⟨⟨c, c2⟩, d⟩ := sum_okT hN e2
        have hj2 : j2 < N := by
          rcases Nat.lt_or_ge j2 N with q | q
          · exact q
          · rw [hN j2 q] at hj; omega
        have a3 := a.2.2.1
        have a4 := a.2.2.2.1
        have c3 := c.2.2.1
        have c4 := c.2.2.2.1
        have c5 := c.2.2.2.2.1
        have hd : pc_headO (tk i) < 4 := by
          unfold pc_headO at h9 ⊢
          repeat' split
          all_goals first | omega | (simp_all; done)
        obtain ⟨⟨t1, t9⟩, t2⟩ := tail_ok hN hN4 (by omega) (by omega) (by omega) hd h
        refine ⟨⟨okT_1 (okT_trans a (okT_trans (okT_1 c (by omega)) t1)) (by omega), by have := t1.1; omega, t9⟩, fun prog hm => t2 prog hm (b prog (mt_pre hm (pre_trans c.2.2.2.2.2 t1.2.2.2.2.2))) (d prog (mt_pre hm t1.2.2.2.2.2))⟩
      · cases h
theorem one_ok (hN : ∀ k, N ≤ k → tk k = 0) (hN4 : N ≤ 400) {i l j l1 : Nat} {C C1 : pc_C} {k : pc_K} (hC : C.length ≤ i) (hl : l ≤ 50) (h : pc_one ord tk vl i l C = .ok (j, l1, C1, k)) : (okT N i l C j l1 C1 ∧ i < j ∧ k.1.2.2.2.2.1 = C1.length) ∧ ∀ prog, pc_mt prog 0 C1 → clOK (if ord = true then 21 else 8) prog k := by
  unfold pc_one at h
  cases ord with
  | true => exact ord1_ok hN hN4 hC hl h
  | false => exact law1_ok hN hN4 hC hl h
theorem text_ok (hN : ∀ k, N ≤ k → tk k = 0) (hN4 : N ≤ 400) : ∀ (m i l : Nat) (C : pc_C) (A : List pc_K) (C1 : pc_C) (L : List pc_K), C.length ≤ i → l ≤ 50 → pc_text ord tk vl N m i l C A = .ok (C1, L) → pc_pre C C1 ∧ C1.length ≤ N ∧ ∃ L2, L = A ++ L2 ∧ L2.length ≤ m ∧ ∀ prog, pc_mt prog 0 C1 → ∀ k ∈ L2, clOK (if ord = true then 21 else 8) prog k ∧ k.1.2.2.2.2.1 ≤ C1.length := by
  intro m
  induction m with
  | zero =>
    intro i l C A C1 L _ _ h
    cases h
  | succ m ih =>
    intro i l C A C1 L hC hl h
    unfold pc_text at h
    split at h
    · cases h
    · rename_i j l1 C2 k e1
      obtain ⟨⟨⟨a1, a2, a3, a4, a5, a6⟩, a7, a8⟩, b⟩ := one_ok hN hN4 hC hl e1
      split at h
      · obtain ⟨q1, q2, L2, rfl, q3, q4⟩ := ih _ _ _ _ _ _ (by omega) (by omega) h
        refine ⟨pre_trans a6 q1, q2, k :: L2, by simp, by rw [List.length_cons]; omega, fun prog hm x hx => ?_⟩
        rcases List.mem_cons.mp hx with rfl | hx
        · exact ⟨b prog (mt_pre hm q1), by rw [a8]; exact q1.1⟩
        · exact q4 prog hm x hx
      · split at h
        · cases h
        · cases h
          refine ⟨a6, by omega, [k], rfl, by simp, fun prog hm x hx => ?_⟩
          rw [List.mem_singleton.mp hx]
          exact ⟨b prog hm, Nat.le_of_eq a8⟩
end
theorem told_app (h : Nat) (e : Nat → Int32) (A B : List pc_K) : pc_told h e (A ++ B) = match pc_told h e B with
    | some v => some v
    | none => pc_told h e A := by
  induction A with
  | nil =>
    show pc_told h e B = _
    cases pc_told h e B <;> rfl
  | cons k A ih =>
    show (match pc_told h e (A ++ B) with
      | some v => some v
      | none => pc_cl h k e) = _
    rw [ih]
    cases pc_told h e B <;> rfl
/-- a program in the memory -/
def PGM (μ : hm_M) (p : Nat) (C : pc_C) (L : List pc_K) : Prop := (C.length ≤ 400 ∧ L.length ≤ 12) ∧ (μ.1 p 3 = Int32.ofNat C.length ∧ μ.1 p 4 = Int32.ofNat L.length) ∧ (C.length ≤ hm_ln μ (p + 1) ∧ hm_ln μ (p + 1) ≤ 400) ∧ (C.length ≤ hm_ln μ (p + 2) ∧ hm_ln μ (p + 2) ≤ 400) ∧ (6 * L.length ≤ hm_ln μ (p + 3) ∧ hm_ln μ (p + 3) ≤ 72) ∧ lawc C L (μ.1 (p + 1)) (μ.1 (p + 2)) (μ.1 (p + 3))
theorem PGM.same {μ μ1 : hm_M} {p : Nat} {C : pc_C} {L : List pc_K} (h : PGM μ p C L) (h1 : ∀ a, p ≤ a → a ≤ p + 3 → ∀ j, μ1.1 a j = μ.1 a j) (h2 : hm_ln μ1 = hm_ln μ) : PGM μ1 p C L := by
  unfold PGM at h ⊢
  have e1 : ∀ a, p ≤ a → a ≤ p + 3 → μ1.1 a = μ.1 a := fun a h3 h4 => funext (h1 a h3 h4)
  rw [h2, e1 _ (by omega) (by omega), e1 (p + 1) (by omega) (by omega), e1 (p + 2) (by omega) (by omega), e1 (p + 3) (by omega) (by omega)]
  exact h
theorem PGM.fm {μ μ1 : hm_M} {o p : Nat} {C : pc_C} {L : List pc_K} (h : PGM μ p C L) (f : fm o μ μ1) (ho : o + 2 < p) : PGM μ1 p C L := h.same (fun a h1 h2 j => f.2 a j (by omega) (by omega)) (congrArg (fun z => z.2.2.2.2) f.1)
theorem PGM.mt {μ : hm_M} {p : Nat} {C : pc_C} {L : List pc_K} (h : PGM μ p C L) : pc_mt (pg9 μ p) 0 C := fun k x _ hx => by
  have := h.2.2.2.2.2.1 k x hx
  exact Prod.ext this.1 this.2
theorem x5_part {μ : hm_M} {p q r : Nat} {C : pc_C} {L : List pc_K} (h : PGM μ p C L) (hq : q < L.length) (hr : r < 6) : f_X5_clausePart p (Int32.ofNat q) (Int32.ofNat r) μ = some (μ.1 (p + 3) (6 * q + r)) := by
  obtain ⟨⟨a1, a2⟩, a3, a4, a5, ⟨a6, a7⟩, a8⟩ := h
  have e : Int32.ofNat q * 6 + Int32.ofNat r = Int32.ofNat (6 * q + r) := by
    rw [show (6 : Int32) = Int32.ofNat 6 from rfl, n_mul, n_add, Nat.mul_comm]
  unfold f_X5_clausePart
  rw [e, if_neg (n_nn (by omega)), if_neg (by rw [n_le (by omega) (by omega)]; omega), ld_n (by omega) (by omega)]
  rfl
theorem x4_seg {e : Nat → Int32} {μ : hm_M} {o p a b : Nat} {C : pc_C} {L : List pc_K} {s : pc_S} (ho : o + 2 < p) (h : PGM μ p C L) (hW : hm_ln μ (o + 2) ≤ 100) (he : ∀ k, k < hm_ln μ (o + 2) → μ.1 (o + 2) k = e k) (hs : sgz (hm_ln μ (o + 2)) (pg9 μ p) a b s) (hb : b ≤ C.length) : ∃ μ2, fm o μ μ2 ∧ ((s e = none ∧ μ2.1 o 2 = 1 ∧ f_X4_run o p (Int32.ofNat a) (Int32.ofNat b) μ = some (0, μ2)) ∨ ∃ v, s e = some v ∧ μ2.1 o 2 = 0 ∧ f_X4_run o p (Int32.ofNat a) (Int32.ofNat b) μ = some (v, μ2)) := by
  rcases hs with ⟨rfl, rfl⟩ | ⟨h1, h2, h3⟩
  · obtain ⟨μ2, f1, f2, f3⟩ := x4_run0 ho h.1.1 hb h.2.1.1
    exact ⟨μ2, f1, Or.inr ⟨0, rfl, f2, f3⟩⟩
  · exact x4_run ho h.1.1 (Nat.le_of_lt h1) hb h.2.1.1 h.2.2.1 h.2.2.2.1 hW (sg_cong (h3 e) he) (by decide)
/-- the component's answer -/
theorem x3_told {e : Nat → Int32} {μ : hm_M} {p : Nat} {C : pc_C} {L : List pc_K} {h : Nat} (hp : 205 ≤ p) (hP : PGM μ p C L) (hW : hm_ln μ 109 = 8) (he : ∀ k, k < 8 → μ.1 109 k = e k) (hc : ∀ k ∈ L, clOK 8 (pg9 μ p) k ∧ k.1.2.2.2.2.1 ≤ C.length) (hh : h < 4) : ∃ μ2, fm 107 μ μ2 ∧ f_X3_lastTold (some p) (Int32.ofNat h) μ = some (match pc_told h e L with
    | some v => v
    | none => 2000000000, μ2) := by
  have loop : ∀ (q F : Nat) (μ1 : hm_M), q ≤ L.length → q < F → fm 107 μ μ1 → ∃ μ2, fm 107 μ μ2 ∧ f_X3_lastTold_L14 (some p) (Int32.ofNat h) p (fun μz11 => some (2000000000, μz11)) F (Int32.ofNat q - 1) μ1 = some (match pc_told h e (L.take q) with
      | some v => v
      | none => 2000000000, μ2) := by
    intro q
    induction q with
    | zero =>
      intro F μ1 _ hF f
      obtain ⟨F, rfl⟩ : ∃ M, F = M + 1 := ⟨F - 1, by omega⟩
      refine ⟨μ1, f, ?_⟩
      rw [f_X3_lastTold_L14, if_pos (by decide)]
      rfl
    | succ q ih =>
      intro F μ1 hq hF f
      obtain ⟨F, rfl⟩ : ∃ M, F = M + 1 := ⟨F - 1, by omega⟩
      have eq1 : Int32.ofNat (q + 1) - 1 = Int32.ofNat q := by
        rw [show (1 : Int32) = Int32.ofNat 1 from rfl, n_sub (by omega)]
        rfl
      have hlt : q < L.length := by omega
      obtain ⟨k, hk⟩ : ∃ k, L[q]? = some k := ⟨L[q], List.getElem?_eq_getElem hlt⟩
      have hmem : k ∈ L := List.mem_of_getElem? hk
      obtain ⟨⟨c1, c2, c3, c4, ⟨c5, c6⟩, c8⟩, c7⟩ := hc k hmem
      have hP1 : PGM μ1 p C L := hP.fm f (by omega)
      have e109 : ∀ k, k < 8 → μ1.1 109 k = e k := fun k hk => (f.2 109 k (by omega) (by omega)).trans (he k hk)
      have epg : pg9 μ1 p = pg9 μ p := funext fun j => by
        unfold pg9
        rw [f.2 _ _ (by omega) (by omega), f.2 _ _ (by omega) (by omega)]
      have eln : hm_ln μ1 109 = 8 := (congrArg (fun z => z.2.2.2.2 109) f.1).trans hW
      have hcl := hP1.2.2.2.2.2.2 q k hk
      have take1 : L.take (q + 1) = L.take q ++ [k] := by rw [List.take_add_one, hk]; rfl
      have tt : pc_told h e (L.take (q + 1)) = match pc_cl h k e with
          | some v => some v
          | none => pc_told h e (L.take q) := by
        rw [take1, told_app]
        rfl
      have back : ∀ μ3, fm 107 μ μ3 → f_X3_lastTold_J98 (some p) (Int32.ofNat h) p (f_X3_lastTold_L14 (some p) (Int32.ofNat h) p (fun μz11 => some (2000000000, μz11)) F) (fun μz11 => some (2000000000, μz11)) (Int32.ofNat q) μ3 = f_X3_lastTold_L14 (some p) (Int32.ofNat h) p (fun μz11 => some (2000000000, μz11)) F (Int32.ofNat q - 1) μ3 := by
        intro μ3 _
        unfold f_X3_lastTold_J98
        rw [show (-1 : Int32) = -1 from rfl, Int32.sub_eq_add_neg]
      have next : ∀ μ3, fm 107 μ μ3 → pc_cl h k e = none → f_X3_lastTold_L14 (some p) (Int32.ofNat h) p (fun μz11 => some (2000000000, μz11)) (F + 1) (Int32.ofNat q) μ1 = f_X3_lastTold_J98 (some p) (Int32.ofNat h) p (f_X3_lastTold_L14 (some p) (Int32.ofNat h) p (fun μz11 => some (2000000000, μz11)) F) (fun μz11 => some (2000000000, μz11)) (Int32.ofNat q) μ3 → ∃ μ2, fm 107 μ μ2 ∧ f_X3_lastTold_L14 (some p) (Int32.ofNat h) p (fun μz11 => some (2000000000, μz11)) (F + 1) (Int32.ofNat q) μ1 = some (match pc_told h e (L.take (q + 1)) with
          | some v => v
          | none => 2000000000, μ2) := by
        intro μ3 g1 g2 g3
        rw [g3, back μ3 g1, tt, g2]
        exact ih F μ3 (by omega) (by omega) g1
      rw [eq1]
      have e0 : ∀ r, r < 6 → f_X5_clausePart p (Int32.ofNat q) (Int32.ofNat r) μ1 = some (μ1.1 (p + 3) (6 * q + r)) := fun r hr => x5_part hP1 hlt hr
      have hd : f_X3_lastTold_L14 (some p) (Int32.ofNat h) p (fun μz11 => some (2000000000, μz11)) (F + 1) (Int32.ofNat q) μ1 = (if k.1.1 = h then (if k.1.2.2.2.1 = k.1.2.2.2.2.1 then f_X3_lastTold_J67 (some p) (Int32.ofNat h) p (f_X3_lastTold_L14 (some p) (Int32.ofNat h) p (fun μz11 => some (2000000000, μz11)) F) (fun μz11 => some (2000000000, μz11)) (Int32.ofNat q) (Int32.ofNat k.1.2.2.2.1) μ1 else hm_b2 (f_X4_run 107 p (Int32.ofNat k.1.2.2.2.1) (Int32.ofNat k.1.2.2.2.2.1) μ1) fun x9 μ10 => (if x9 = 1 then f_X3_lastTold_J67 (some p) (Int32.ofNat h) p (f_X3_lastTold_L14 (some p) (Int32.ofNat h) p (fun μz11 => some (2000000000, μz11)) F) (fun μz11 => some (2000000000, μz11)) (Int32.ofNat q) (Int32.ofNat k.1.2.2.2.1) μ10 else f_X3_lastTold_J98 (some p) (Int32.ofNat h) p (f_X3_lastTold_L14 (some p) (Int32.ofNat h) p (fun μz11 => some (2000000000, μz11)) F) (fun μz11 => some (2000000000, μz11)) (Int32.ofNat q) μ10)) else f_X3_lastTold_J98 (some p) (Int32.ofNat h) p (f_X3_lastTold_L14 (some p) (Int32.ofNat h) p (fun μz11 => some (2000000000, μz11)) F) (fun μz11 => some (2000000000, μz11)) (Int32.ofNat q) μ1) := by
        rw [f_X3_lastTold_L14, if_neg (n_nn (by have := hP.1.2; omega)), show (0 : Int32) = Int32.ofNat 0 from rfl, e0 0 (by omega), Option.bind_some, show μ1.1 (p + 3) (6 * q + 0) = _ from hcl.1]
        have h12 := hP.1.1
        have hle : k.1.2.2.2.1 ≤ k.1.2.2.2.2.1 := by
          cases ht : k.2.2.2 with
          | none => rw [ht] at c3; exact Nat.le_of_eq c3
          | some t => rw [ht] at c3; exact Nat.le_of_lt c3.1
        by_cases z : k.1.1 = h
        · rw [if_pos (by rw [z]), if_pos z, show (3 : Int32) = Int32.ofNat 3 from rfl, e0 3 (by omega), Option.bind_some, show (4 : Int32) = Int32.ofNat 4 from rfl, e0 4 (by omega), Option.bind_some, hcl.2.2.2.1, hcl.2.2.2.2.1]
          by_cases y : k.1.2.2.2.1 = k.1.2.2.2.2.1
          · rw [if_pos (by rw [y]), if_pos y]
          · rw [if_neg (by rw [n_eq (by omega) (by omega)]; exact y), if_neg y]
        · rw [if_neg (by rw [n_eq (by omega) (by omega)]; exact z), if_neg z]
      have hrun : ∀ μ3, fm 107 μ μ3 → pc_cl h k e = k.2.1 e → f_X3_lastTold_L14 (some p) (Int32.ofNat h) p (fun μz11 => some (2000000000, μz11)) (F + 1) (Int32.ofNat q) μ1 = f_X3_lastTold_J67 (some p) (Int32.ofNat h) p (f_X3_lastTold_L14 (some p) (Int32.ofNat h) p (fun μz11 => some (2000000000, μz11)) F) (fun μz11 => some (2000000000, μz11)) (Int32.ofNat q) (Int32.ofNat k.1.2.2.2.1) μ3 → ∃ μ2, fm 107 μ μ2 ∧ f_X3_lastTold_L14 (some p) (Int32.ofNat h) p (fun μz11 => some (2000000000, μz11)) (F + 1) (Int32.ofNat q) μ1 = some (match pc_told h e (L.take (q + 1)) with
          | some v => v
          | none => 2000000000, μ2) := by
        intro μ3 g1 g2 g3
        have hP3 : PGM μ3 p C L := hP.fm g1 (by omega)
        have epg3 : pg9 μ3 p = pg9 μ p := funext fun j => by
          unfold pg9
          rw [g1.2 _ _ (by omega) (by omega), g1.2 _ _ (by omega) (by omega)]
        have eln3 : hm_ln μ3 109 = 8 := (congrArg (fun z => z.2.2.2.2 109) g1.1).trans hW
        have e3 : ∀ k, k < 8 → μ3.1 109 k = e k := fun k hk => (g1.2 109 k (by omega) (by omega)).trans (he k hk)
        have hcl3 := hP3.2.2.2.2.2.2 q k hk
        have seg : sgz (hm_ln μ3 (107 + 2)) (pg9 μ3 p) k.1.2.1 k.1.2.2.2.1 k.2.1 := by
          rw [epg3, show hm_ln μ3 (107 + 2) = 8 from eln3, ← c8 rfl]
          exact c1
        obtain ⟨μ4, f4, alt⟩ := x4_seg (e := e) (o := 107) (by omega) hP3 (by rw [show hm_ln μ3 (107 + 2) = 8 from eln3]; decide) (by rw [show hm_ln μ3 (107 + 2) = 8 from eln3]; exact e3) seg (by
          have hle : k.1.2.2.2.1 ≤ k.1.2.2.2.2.1 := by
            cases ht : k.2.2.2 with
            | none => rw [ht] at c3; exact Nat.le_of_eq c3
            | some t => rw [ht] at c3; exact Nat.le_of_lt c3.1
          omega)
        have e67 : f_X3_lastTold_J67 (some p) (Int32.ofNat h) p (f_X3_lastTold_L14 (some p) (Int32.ofNat h) p (fun μz11 => some (2000000000, μz11)) F) (fun μz11 => some (2000000000, μz11)) (Int32.ofNat q) (Int32.ofNat k.1.2.2.2.1) μ3 = hm_b2 (f_X4_run 107 p (Int32.ofNat k.1.2.1) (Int32.ofNat k.1.2.2.2.1) μ3) fun x7 μ8 => (if (μ8.1 107 2) = 0 then some (x7, μ8) else f_X3_lastTold_J98 (some p) (Int32.ofNat h) p (f_X3_lastTold_L14 (some p) (Int32.ofNat h) p (fun μz11 => some (2000000000, μz11)) F) (fun μz11 => some (2000000000, μz11)) (Int32.ofNat q) μ8) := by
          unfold f_X3_lastTold_J67
          rw [show (1 : Int32) = Int32.ofNat 1 from rfl, x5_part hP3 hlt (by omega), Option.bind_some, hcl3.2.1]
        rcases alt with ⟨z1, z2, z3⟩ | ⟨v, z1, z2, z3⟩
        · refine next μ4 (fm_trans g1 f4) (by rw [g2]; exact z1) ?_
          rw [g3, e67, z3, b2_some, if_neg (by rw [z2]; decide)]
        · refine ⟨μ4, fm_trans g1 f4, ?_⟩
          rw [g3, e67, z3, b2_some, if_pos z2, tt, g2, z1]
      by_cases z : k.1.1 = h
      · rw [if_pos z] at hd
        cases ht : k.2.2.2 with
        | none =>
          rw [ht] at c3
          have c3' : k.1.2.2.2.1 = k.1.2.2.2.2.1 := c3
          rw [if_pos c3'] at hd
          refine hrun μ1 f ?_ hd
          unfold pc_cl
          rw [if_pos z, ht]
        | some t =>
          rw [ht] at c3
          obtain ⟨d1, d2, d3⟩ := c3
          rw [if_neg (by omega)] at hd
          obtain ⟨μ4, f4, alt⟩ := x4_run (o := 107) (p := p) (μ := μ1) (S := C.length) (a := k.1.2.2.2.1) (b := k.1.2.2.2.2.1) (s := t e) (h := 50) (by omega) hP1.1.1 (by omega) c7 hP1.2.1.1 hP1.2.2.1 hP1.2.2.2.1 (by rw [show hm_ln μ1 (107 + 2) = 8 from eln]; decide) (by rw [epg, show hm_ln μ1 (107 + 2) = 8 from eln]; exact sg_cong (d3 e) e109) (by decide)
          have ecl : pc_cl h k e = if t e = some 1 then k.2.1 e else none := by
            unfold pc_cl
            rw [if_pos z, ht]
          rcases alt with ⟨hs, -, alt⟩ | ⟨v, hs, -, alt⟩
          · rw [hs] at ecl
            refine next μ4 (fm_trans f f4) (by rw [ecl, if_neg (by simp)]) ?_
            rw [hd, alt, b2_some, if_neg (by decide)]
          · rw [hs] at ecl
            by_cases v1 : v = 1
            · subst v1
              refine hrun μ4 (fm_trans f f4) (by rw [ecl, if_pos rfl]) ?_
              rw [hd, alt, b2_some, if_pos rfl]
            · refine next μ4 (fm_trans f f4) (by rw [ecl, if_neg (by simpa using v1)]) ?_
              rw [hd, alt, b2_some, if_neg v1]
      · rw [if_neg z] at hd
        exact next μ1 f (by unfold pc_cl; rw [if_neg z]) hd
  obtain ⟨μ2, f2, e2⟩ := loop L.length hm_fu μ (Nat.le_refl _) (fu_lt (by have := hP.1.2; omega)) (fm_refl _ _)
  refine ⟨μ2, f2, ?_⟩
  unfold f_X3_lastTold
  simp only
  rw [hP.2.1.2, e2, List.take_length]
end
