section
/-! What was put in order comes to what it means. -/
theorem pc_b_ok {α β : Type} {r : pc_R α} {f : Nat → Nat → pc_C → α → pc_R β} {x : Nat × Nat × pc_C × β} (h : pc_b r f = .ok x) : ∃ j l C s, r = .ok (j, l, C, s) ∧ f j l C s = .ok x := by
  match r, h with
  | .error e, h => cases h
  | .ok (j, l, C, s), h => exact ⟨j, l, C, s, rfl, h⟩
theorem wo_2 (x y : Int64) : f_X4_workOut 2 x y = some (x + y) := by
  unfold f_X4_workOut
  rw [if_neg (by decide), if_pos (by decide)]
theorem wo_3 (x y : Int64) : f_X4_workOut 3 x y = some (x - y) := by
  unfold f_X4_workOut
  rw [if_neg (by decide), if_neg (by decide), if_pos (by decide)]
theorem wo_4 (x y : Int64) : f_X4_workOut 4 x y = some (x * y) := by
  unfold f_X4_workOut
  rw [if_neg (by decide), if_neg (by decide), if_neg (by decide), if_pos (by decide)]
theorem wo_5 (x y : Int64) : f_X4_workOut 5 x y = if y = 0 then some 1000000001 else some (x / y) := by
  unfold f_X4_workOut
  rw [if_neg (by decide), if_neg (by decide), if_neg (by decide), if_neg (by decide), if_pos (by decide)]
  by_cases h : y = 0
  · subst h; rfl
  · have : ¬ lg_cmp y 0 = 0 := fun z => h ((lg_cmp_eq y 0).mp z)
    rw [if_neg this, if_neg h]
    unfold hm_dvJ
    rw [if_neg h]
    rfl
theorem wo_6 (x y : Int64) : f_X4_workOut 6 x y = if y = 0 then some 1000000001 else some (x - x / y * y) := by
  unfold f_X4_workOut
  rw [if_neg (by decide), if_neg (by decide), if_neg (by decide), if_neg (by decide), if_neg (by decide), if_pos (by decide)]
  by_cases h : y = 0
  · subst h; rfl
  · have : ¬ lg_cmp y 0 = 0 := fun z => h ((lg_cmp_eq y 0).mp z)
    rw [if_neg this, if_neg h]
    unfold hm_rmJ
    rw [if_neg h]
    rfl
theorem wo_7 (x y : Int64) : f_X4_workOut 7 x y = if 0 ≤ lg_cmp x y then some 0 else some 1 := by
  unfold f_X4_workOut
  rw [if_neg (by decide), if_neg (by decide), if_neg (by decide), if_neg (by decide), if_neg (by decide), if_neg (by decide), if_pos (by decide)]
theorem wo_8 (x y : Int64) : f_X4_workOut 8 x y = if lg_cmp x y ≤ 0 then some 0 else some 1 := by
  unfold f_X4_workOut
  rw [if_neg (by decide), if_neg (by decide), if_neg (by decide), if_neg (by decide), if_neg (by decide), if_neg (by decide), if_neg (by decide), if_pos (by decide)]
theorem wo_9 (x y : Int64) : f_X4_workOut 9 x y = if lg_cmp x y = 0 then some 1 else some 0 := by
  unfold f_X4_workOut
  rw [if_pos (by decide)]
theorem i64_32 {x : Int64} (h1 : -1000000001 ≤ x.toInt) (h2 : x.toInt ≤ 1000000001) : x.toInt32.toInt = x.toInt := by
  rw [Int64.toInt_toInt32, Int.bmod_def]
  split <;> omega
theorem pc_op_bd {op a b v : Int32} (h : pc_op op a b = some v) : v.toInt.natAbs ≤ 1000000000 := by
  unfold pc_op at h
  cases e : f_X4_workOut op a.toInt64 b.toInt64 with
  | none => rw [e] at h; cases h
  | some x =>
    rw [e, Option.bind_some] at h
    simp only [lg_cmp_gt, lg_cmp_ge, Int64.lt_iff_toInt_lt, Int64.le_iff_toInt_le] at h
    have k1 : (1000000000 : Int64).toInt = 1000000000 := rfl
    have k2 : (-1000000000 : Int64).toInt = -1000000000 := rfl
    rw [k1, k2] at h
    split at h
    · cases h
    · split at h
      · cases h
        rw [i64_32 (by omega) (by omega)]
        omega
      · cases h
theorem pc_op_cmp {op a b v : Int32} (ho : op = 7 ∨ op = 8 ∨ op = 9) (h : pc_op op a b = some v) : v = 0 ∨ v = 1 := by
  have k0 : ∀ z : Int64, z = 0 ∨ z = 1 → (if 0 < lg_cmp z 1000000000 then none else if 0 ≤ lg_cmp z (-1000000000) then some z.toInt32 else none) = some v → v = 0 ∨ v = 1 := by
    rintro z (rfl | rfl) hz
    · have e : (if 0 < lg_cmp 0 1000000000 then none else if 0 ≤ lg_cmp 0 (-1000000000) then some (0 : Int64).toInt32 else none) = some (0 : Int32) := by decide
      rw [e] at hz
      cases hz
      exact Or.inl rfl
    · have e : (if 0 < lg_cmp 1 1000000000 then none else if 0 ≤ lg_cmp 1 (-1000000000) then some (1 : Int64).toInt32 else none) = some (1 : Int32) := by decide
      rw [e] at hz
      cases hz
      exact Or.inr rfl
  have k1 : ∃ z : Int64, (z = 0 ∨ z = 1) ∧ f_X4_workOut op a.toInt64 b.toInt64 = some z := by
    rcases ho with rfl | rfl | rfl
    · rw [wo_7]; split
      · exact ⟨0, Or.inl rfl, rfl⟩
      · exact ⟨1, Or.inr rfl, rfl⟩
    · rw [wo_8]; split
      · exact ⟨0, Or.inl rfl, rfl⟩
      · exact ⟨1, Or.inr rfl, rfl⟩
    · rw [wo_9]; split
      · exact ⟨1, Or.inr rfl, rfl⟩
      · exact ⟨0, Or.inl rfl, rfl⟩
  obtain ⟨z, hz, e⟩ := k1
  unfold pc_op at h
  rw [e] at h
  exact k0 z hz h
def pc_pre (C C1 : pc_C) : Prop := C.length ≤ C1.length ∧ ∀ k, k < C.length → C1[k]? = C[k]?
def pc_mt (prog : Nat → Int32 × Int32) (a : Nat) (C : pc_C) : Prop := ∀ k x, a ≤ k → C[k]? = some x → prog k = x
theorem pre_refl (C : pc_C) : pc_pre C C := ⟨Nat.le_refl _, fun _ _ => rfl⟩
theorem pre_trans {A B C : pc_C} (h : pc_pre A B) (g : pc_pre B C) : pc_pre A C := ⟨Nat.le_trans h.1 g.1, fun k hk => (g.2 k (Nat.lt_of_lt_of_le hk h.1)).trans (h.2 k hk)⟩
theorem pre_app (C D : pc_C) : pc_pre C (C ++ D) := ⟨by rw [List.length_append]; omega, fun _ hk => List.getElem?_append_left hk⟩
theorem leap_len (C : pc_C) (k : Nat) : (pc_leap C k).length = C.length := List.length_set
theorem pre_leap {C C1 : pc_C} {k : Nat} (h : pc_pre C C1) (hk : C.length ≤ k) : pc_pre C (pc_leap C1 k) := ⟨by rw [leap_len]; exact h.1, fun j hj => by
  unfold pc_leap
  rw [List.getElem?_set_ne (by omega)]
  exact h.2 j hj⟩
theorem mt_pre {prog : Nat → Int32 × Int32} {a : Nat} {C C1 : pc_C} (h : pc_mt prog a C1) (p : pc_pre C C1) : pc_mt prog a C := fun k x ha hk => h k x ha ((p.2 k (List.getElem?_eq_some_iff.mp hk).1).trans hk)
theorem mt_up {prog : Nat → Int32 × Int32} {a b : Nat} {C : pc_C} (h : pc_mt prog a C) (hb : a ≤ b) : pc_mt prog b C := fun k x ha hk => h k x (Nat.le_trans hb ha) hk
theorem mt_last {prog : Nat → Int32 × Int32} {a : Nat} {C : pc_C} {x : Int32 × Int32} (h : pc_mt prog a (C ++ [x])) (ha : a ≤ C.length) : prog C.length = x := h _ _ ha (by simp)
/-- numbers stay within bounds; tests are so or not -/
def bS (s : pc_S) : Prop := ∀ e : Nat → Int32, (∀ k, (e k).toInt.natAbs ≤ 1000000000) → ∀ v, s e = some v → v.toInt.natAbs ≤ 1000000000
def tS (s : pc_S) : Prop := ∀ (e : Nat → Int32) (v : Int32), s e = some v → v = 0 ∨ v = 1
theorem s2_some {op : Int32} {s t : pc_S} {e : Nat → Int32} {v : Int32} (h : pc_s2 op s t e = some v) : ∃ a b, pc_op op a b = some v := by
  unfold pc_s2 at h
  cases e1 : s e with
  | none => rw [e1] at h; cases h
  | some a =>
    rw [e1, Option.bind_some] at h
    cases e2 : t e with
    | none => rw [e2] at h; cases h
    | some b => rw [e2] at h; exact ⟨a, b, h⟩
theorem bS_2 (op : Int32) (s t : pc_S) : bS (pc_s2 op s t) := fun e _ v h => by
  obtain ⟨a, b, z⟩ := s2_some h
  exact pc_op_bd z
theorem tS_2 {op : Int32} (ho : op = 7 ∨ op = 8 ∨ op = 9) (s t : pc_S) : tS (pc_s2 op s t) := fun e v h => by
  obtain ⟨a, b, z⟩ := s2_some h
  exact pc_op_cmp ho z
theorem tS_nt {s : pc_S} (h : tS s) : tS (pc_nt s) := fun e v hv => by
  unfold pc_nt at hv
  cases e1 : s e with
  | none => rw [e1] at hv; cases hv
  | some a =>
    rw [e1] at hv
    rcases h e a e1 with rfl | rfl
    · cases hv; exact Or.inr rfl
    · cases hv; exact Or.inl rfl
theorem tS_or {s t : pc_S} (h : tS s) (g : tS t) : tS (pc_or s t) := fun e v hv => by
  unfold pc_or at hv
  cases e1 : s e with
  | none => rw [e1] at hv; cases hv
  | some a =>
    rw [e1, Option.bind_some] at hv
    split at hv
    · cases hv; exact h e _ e1
    · exact g e v hv
theorem tS_an {s t : pc_S} (h : tS s) (g : tS t) : tS (pc_an s t) := fun e v hv => by
  unfold pc_an at hv
  cases e1 : s e with
  | none => rw [e1] at hv; cases hv
  | some a =>
    rw [e1, Option.bind_some] at hv
    split at hv
    · cases hv; exact h e _ e1
    · exact g e v hv
def okS (N W : Nat) (Q : pc_S → Prop) (i l : Nat) (C : pc_C) (j l1 : Nat) (C1 : pc_C) (s : pc_S) : Prop := (i < j ∧ l < l1 ∧ C1.length + i ≤ C.length + j ∧ j ≤ N ∧ l1 ≤ 50) ∧ pc_pre C C1 ∧ Q s ∧ ∀ prog, pc_mt prog C.length C1 → ∀ e, sg e W prog C.length C1.length (s e) (l1 - l)
section
variable {N W : Nat} {ord : Bool} {tk vl : Nat → Nat}
theorem ok_num {i l : Nat} {C : pc_C} {x : Nat} (hi : i < N) (hx : x ≤ 1000) (hl : l < 50) : okS N W bS i l C (i + 1) (l + 1) (C ++ [(0, Int32.ofNat x)]) (fun _ => some (Int32.ofNat x)) := by
  refine ⟨⟨by omega, by omega, by rw [List.length_append]; simp only [List.length_cons, List.length_nil]; omega, by omega⟩, pre_app _ _, ?_, fun prog hm e => ?_⟩
  · intro e _ v hv
    cases hv
    rw [n_toInt (by omega)]
    omega
  · rw [List.length_append]
    exact sg_num (mt_last hm (Nat.le_refl _)) (by omega)
theorem ok_wd {i j l : Nat} {C : pc_C} {x : Nat} (hi : i < j) (hj : j ≤ N) (hx : x < W) (hW : W ≤ 100) (hl : l < 50) : okS N W bS i l C j (l + 1) (C ++ [(1, Int32.ofNat x)]) (fun e => some (e x)) := by
  refine ⟨⟨by omega, by omega, by rw [List.length_append]; simp only [List.length_cons, List.length_nil]; omega, by omega⟩, pre_app _ _, ?_, fun prog hm e => ?_⟩
  · intro e he v hv
    cases hv
    exact he x
  · rw [List.length_append]
    exact sg_word (mt_last hm (Nat.le_refl _)) hx (by omega) (by omega)
theorem ok_2 {Q Q1 Q2 : pc_S → Prop} {i0 l0 i l j l1 op : Nat} {C0 C C1 : pc_C} {s t : pc_S} (h : okS N W Q i0 l0 C0 i l C s) (g : okS N W Q1 (i + 1) l C j l1 C1 t) (ho : 2 ≤ op ∧ op ≤ 9) (hq : Q2 (pc_s2 (Int32.ofNat op) s t)) : okS N W Q2 i0 l0 C0 j l1 (C1 ++ [(Int32.ofNat op, 0)]) (pc_s2 (Int32.ofNat op) s t) := by
  obtain ⟨⟨a1, a2, a3, a4⟩, b, c, d⟩ := h
  obtain ⟨⟨a5, a6, a7, a8⟩, b1, c1, d1⟩ := g
  have hl : (C1 ++ [((Int32.ofNat op, 0) : Int32 × Int32)]).length = C1.length + 1 := by rw [List.length_append]; rfl
  refine ⟨⟨by omega, by omega, by rw [hl]; omega, by omega⟩, pre_trans b (pre_trans b1 (pre_app _ _)), hq, fun prog hm e => ?_⟩
  rw [hl]
  have m1 : pc_mt prog C0.length C1 := mt_pre hm (pre_app _ _)
  have m2 : pc_mt prog C0.length C := mt_pre m1 b1
  refine sg_bin (d prog m2 e) (d1 prog (mt_up m1 b.1) e) (mt_last hm (Nat.le_trans b.1 b1.1)) ?_ ⟨by omega, by omega⟩ b1.1
  have : op = 2 ∨ op = 3 ∨ op = 4 ∨ op = 5 ∨ op = 6 ∨ op = 7 ∨ op = 8 ∨ op = 9 := by omega
  rcases this with rfl | rfl | rfl | rfl | rfl | rfl | rfl | rfl <;> decide
theorem ok_lg {i0 l0 i l j l1 : Nat} {op : Int32} {f : pc_S → pc_S → pc_S} (ho : (op = 11 ∧ f = pc_or) ∨ (op = 12 ∧ f = pc_an)) {C0 C C1 : pc_C} {s t : pc_S} (h : okS N W tS i0 l0 C0 i l C s) (g : okS N W tS (i + 1) l (C ++ [(op, 0)]) j l1 C1 t) (hC : C0.length ≤ i0) (hN : N ≤ 1000) : okS N W tS i0 l0 C0 j l1 (pc_leap C1 C.length) (f s t) := by
  obtain ⟨⟨a1, a2, a3, a4⟩, b, c, d⟩ := h
  obtain ⟨⟨a5, a6, a7, a8⟩, b1, c1, d1⟩ := g
  have hl : (C ++ [((op, 0) : Int32 × Int32)]).length = C.length + 1 := by rw [List.length_append]; rfl
  have hb1 := b1.1
  have hb := b.1
  rw [hl] at a7 hb1
  have hc : C.length < C1.length := by omega
  have e1 : C1[C.length]? = some (op, 0) := by
    rw [b1.2 C.length (by omega)]
    simp
  have e2 : (pc_leap C1 C.length)[C.length]? = some (op, Int32.ofNat C1.length) := by
    unfold pc_leap
    rw [List.getElem?_set_self hc, List.getD_eq_getElem?_getD, e1]
    rfl
  refine ⟨⟨by omega, by omega, by rw [leap_len]; omega, by omega⟩, pre_leap (pre_trans b (pre_trans (pre_app _ _) b1)) hb, ?_, fun prog hm e => ?_⟩
  · rcases ho with ⟨-, rfl⟩ | ⟨-, rfl⟩
    · exact tS_or c c1
    · exact tS_an c c1
  · rw [leap_len]
    have m0 : pc_mt prog C0.length C := by
      refine mt_pre hm (pre_leap (pre_trans (pre_app C [(op, 0)]) b1) (Nat.le_refl _))
    have m1 : pc_mt prog (C ++ [((op, 0) : Int32 × Int32)]).length C1 := by
      intro k x hk hx
      refine hm k x (by rw [hl] at hk; omega) ?_
      unfold pc_leap
      rw [List.getElem?_set_ne (by rw [hl] at hk; omega)]
      exact hx
    have sg1 := d1 prog m1 e
    rw [hl] at sg1
    have := sg_or (h := l1 - l0) (by rcases ho with ⟨h, -⟩ | ⟨h, -⟩; exact Or.inl h; exact Or.inr h) (d prog m0 e) sg1 (hm _ _ hb e2) (by omega) hc ⟨by omega, by omega⟩
    rcases ho with ⟨rfl, rfl⟩ | ⟨rfl, rfl⟩
    · rw [if_pos rfl] at this
      exact this
    · rw [if_neg (by decide)] at this
      exact this
theorem part_ok {ks : Nat → Nat → Nat → pc_C → pc_R pc_S} (hN : ∀ k, N ≤ k → tk k = 0) (hW : W = if ord = true then 21 else 8) (hk : ∀ d i l C j l1 C1 s, ks d i l C = .ok (j, l1, C1, s) → okS N W bS i l C j l1 C1 s) {d i l j l1 : Nat} {C C1 : pc_C} {s : pc_S} (h : pc_part ord tk vl ks d i l C = .ok (j, l1, C1, s)) : okS N W bS i l C j l1 C1 s := by
  have hi : tk i ≠ 0 → i < N := fun z => by
    rcases Nat.lt_or_ge i N with q | q
    · exact q
    · exact absurd (hN i q) z
  have hi1 : tk (i + 1) ≠ 0 → i + 1 < N := fun z => by
    rcases Nat.lt_or_ge (i + 1) N with q | q
    · exact q
    · exact absurd (hN (i + 1) q) z
  unfold pc_part at h
  split at h
  · split at h
    · obtain ⟨j2, l2, C2, t, e1, h⟩ := pc_b_ok h
      split at h
      · rename_i hj
        have hj2 : j2 < N := by
          rcases Nat.lt_or_ge j2 N with q | q
          · exact q
          · rw [hN j2 q] at hj; cases hj
        cases h
        obtain ⟨⟨a1, a2, a3, a4⟩, b, c, d⟩ := hk _ _ _ _ _ _ _ _ e1
        exact ⟨⟨by omega, a2, by omega, by omega⟩, b, c, d⟩
      · cases h
    · cases h
  · split at h
    · split at h
      · rename_i h1
        cases h
        exact ok_num (hi (by omega)) h1.2 (by omega)
      · split at h
        · cases h
        · rename_i hw
          have hz : tk i ≠ 0 := fun z => by
            apply hw
            rw [z]
            cases ord <;> rfl
          split at h
          · rename_i h5
            split at h
            · rename_i h6
              cases h
              refine ok_wd (by omega) (by have := hi1 (by omega); omega) ?_ (by rw [hW]; split <;> decide) (by omega)
              rw [hW, if_pos h5.1]
              unfold pc_whose
              split <;> omega
            · cases h
          · rename_i h5
            cases h
            refine ok_wd (by omega) (by have := hi hz; omega) ?_ (by rw [hW]; split <;> decide) (by omega)
            rw [hW]
            unfold pc_word at hw h5 ⊢
            cases ord with
            | true =>
              simp only [if_true, true_and] at hw h5 ⊢
              split at hw <;> split <;> omega
            | false =>
              simp only [Bool.false_eq_true, if_false] at hw ⊢
              split
              · omega
              · split
                · omega
                · split
                  · omega
                  · rename_i z1 z2 z3
                    rw [if_neg z1, if_neg z2, if_neg z3] at hw
                    exact absurd rfl hw
    · cases h
theorem loop_ok {g : Nat → Nat} {kp : Nat → Nat → pc_C → pc_R pc_S} (hg : ∀ c, g c ≠ 0 → 2 ≤ g c ∧ g c ≤ 9) (hk : ∀ i l C j l1 C1 s, kp i l C = .ok (j, l1, C1, s) → okS N W bS i l C j l1 C1 s) {i0 l0 : Nat} {C0 : pc_C} : ∀ (m i l : Nat) (C : pc_C) (s : pc_S) (j l1 : Nat) (C1 : pc_C) (t : pc_S), okS N W bS i0 l0 C0 i l C s → pc_loop tk g kp m i l C s = .ok (j, l1, C1, t) → okS N W bS i0 l0 C0 j l1 C1 t := by
  intro m
  induction m with
  | zero =>
    intro i l C s j l1 C1 t hs h
    cases h
    exact hs
  | succ m ih =>
    intro i l C s j l1 C1 t hs h
    unfold pc_loop at h
    split at h
    · cases h
      exact hs
    · rename_i hz
      obtain ⟨j2, l2, C2, t2, e1, h⟩ := pc_b_ok h
      exact ih _ _ _ _ _ _ _ _ (ok_2 hs (hk _ _ _ _ _ _ _ e1) (hg _ hz) (bS_2 _ _ _)) h
theorem g_mul (c : Nat) (h : pc_mul c ≠ 0) : 2 ≤ pc_mul c ∧ pc_mul c ≤ 9 := by
  unfold pc_mul at h ⊢
  repeat' split
  all_goals first | omega | (simp_all; done)
theorem g_add (c : Nat) (h : pc_add c ≠ 0) : 2 ≤ pc_add c ∧ pc_add c ≤ 9 := by
  unfold pc_add at h ⊢
  repeat' split
  all_goals first | omega | (simp_all; done)
theorem term_ok {ks : Nat → Nat → Nat → pc_C → pc_R pc_S} (hN : ∀ k, N ≤ k → tk k = 0) (hW : W = if ord = true then 21 else 8) (hk : ∀ d i l C j l1 C1 s, ks d i l C = .ok (j, l1, C1, s) → okS N W bS i l C j l1 C1 s) {d i l j l1 : Nat} {C C1 : pc_C} {s : pc_S} (h : pc_term ord tk vl ks d i l C = .ok (j, l1, C1, s)) : okS N W bS i l C j l1 C1 s := by
  unfold pc_term at h
  obtain ⟨j2, l2, C2, t, e1, h⟩ := pc_b_ok h
  exact loop_ok g_mul (fun i l C j l1 C1 s z => part_ok hN hW hk z) _ _ _ _ _ _ _ _ _ (part_ok hN hW hk e1) h
theorem sum_ok (hN : ∀ k, N ≤ k → tk k = 0) (hW : W = if ord = true then 21 else 8) : ∀ (n d i l : Nat) (C : pc_C) (j l1 : Nat) (C1 : pc_C) (s : pc_S), pc_sum ord tk vl n d i l C = .ok (j, l1, C1, s) → okS N W bS i l C j l1 C1 s := by
  intro n
  induction n with
  | zero =>
    intro d i l C j l1 C1 s h
    cases h
  | succ n ih =>
    intro d i l C j l1 C1 s h
    unfold pc_sum at h
    obtain ⟨j2, l2, C2, t, e1, h⟩ := pc_b_ok h
    exact loop_ok g_add (fun i l C j l1 C1 s z => term_ok hN hW ih z) _ _ _ _ _ _ _ _ _ (term_ok hN hW ih e1) h
theorem nots_le (m i : Nat) (b : Bool) : i ≤ (pc_nots tk m i b).1 ∧ ((pc_nots tk m i b).2 ≠ b → i < (pc_nots tk m i b).1) := by
  induction m generalizing i b with
  | zero => exact ⟨Nat.le_refl _, fun h => absurd rfl h⟩
  | succ m ih =>
    unfold pc_nots
    split
    · have := ih (i + 1) (!b)
      exact ⟨by omega, fun _ => by omega⟩
    · exact ⟨Nat.le_refl _, fun h => absurd rfl h⟩
theorem fin_ok {b : Bool} {i0 i l j l1 j2 l2 : Nat} {C C1 C2 : pc_C} {s t : pc_S} (h : okS N W tS i l C j l1 C1 s) (h0 : i0 ≤ i) (h1 : b = true → i0 < i) (e : pc_fin b j l1 C1 s = .ok (j2, l2, C2, t)) : okS N W tS i0 l C j2 l2 C2 t := by
  obtain ⟨⟨a1, a2, a3, a4⟩, p, q, r⟩ := h
  unfold pc_fin at e
  split at e
  · rename_i hb
    have := h1 hb
    cases e
    have hl : (C1 ++ [((10, 0) : Int32 × Int32)]).length = C1.length + 1 := by rw [List.length_append]; rfl
    refine ⟨⟨by omega, by omega, by rw [hl]; omega, by omega⟩, pre_trans p (pre_app _ _), tS_nt q, fun prog hm e => ?_⟩
    rw [hl]
    exact sg_not (r prog (mt_pre hm (pre_app _ _)) e) (mt_last hm p.1)
  · cases e
    exact ⟨⟨by omega, by omega, by omega, by omega⟩, p, q, r⟩
theorem g_cmp (c : Nat) (h : pc_cmp c ≠ 0) : pc_cmp c = 7 ∨ pc_cmp c = 8 ∨ pc_cmp c = 9 := by
  unfold pc_cmp at h ⊢
  repeat' split
  all_goals first | omega | (simp_all; done)
theorem plain_ok {kt : Nat → Nat → Nat → pc_C → pc_R pc_S} (hN : ∀ k, N ≤ k → tk k = 0) (hW : W = if ord = true then 21 else 8) (hk : ∀ d i l C j l1 C1 s, C.length ≤ i → kt d i l C = .ok (j, l1, C1, s) → okS N W tS i l C j l1 C1 s) {d i l j l1 : Nat} {C C1 : pc_C} {s : pc_S} (hC : C.length ≤ i) (h : pc_plain ord tk vl kt d i l C = .ok (j, l1, C1, s)) : okS N W tS i l C j l1 C1 s := by
  unfold pc_plain at h
  obtain ⟨n1, n2⟩ := nots_le (tk := tk) 400 i false
  generalize (pc_nots tk 400 i false).1 = i1 at h n1 n2
  generalize (pc_nots tk 400 i false).2 = b at h n2
  have n3 : b = true → i < i1 := fun z => n2 (by rw [z]; decide)
  unfold pc_pos at h
  split at h
  · split at h
    · obtain ⟨j2, l2, C2, t, e1, h⟩ := pc_b_ok h
      split at h
      · rename_i hj
        have hj2 : j2 < N := by
          rcases Nat.lt_or_ge j2 N with q | q
          · exact q
          · rw [hN j2 q] at hj; cases hj
        obtain ⟨⟨a1, a2, a3, a4⟩, b1, c, d⟩ := hk _ _ _ _ _ _ _ _ (by omega) e1
        exact fin_ok (i := i1) (j := j2 + 1) ⟨⟨by omega, a2, by omega, by omega⟩, b1, c, d⟩ n1 n3 h
      · cases h
    · cases h
  · obtain ⟨j2, l2, C2, t, e1, h⟩ := pc_b_ok h
    split at h
    · cases h
    · rename_i hc
      obtain ⟨j3, l3, C3, t3, e2, h⟩ := pc_b_ok h
      have hg := g_cmp _ hc
      refine fin_ok (ok_2 (Q2 := tS) (sum_ok hN hW _ _ _ _ _ _ _ _ _ e1) (sum_ok hN hW _ _ _ _ _ _ _ _ _ e2) (by omega) (tS_2 ?_ _ _)) n1 n3 h
      rcases hg with z | z | z <;> rw [z]
      · exact Or.inl rfl
      · exact Or.inr (Or.inl rfl)
      · exact Or.inr (Or.inr rfl)
theorem lgl_ok {c : Nat} {op : Int32} {f : pc_S → pc_S → pc_S} (ho : (op = 11 ∧ f = pc_or) ∨ (op = 12 ∧ f = pc_an)) {kp : Nat → Nat → pc_C → pc_R pc_S} (hk : ∀ i l C j l1 C1 s, C.length ≤ i → kp i l C = .ok (j, l1, C1, s) → okS N W tS i l C j l1 C1 s) (hN : N ≤ 1000) {i0 l0 : Nat} {C0 : pc_C} (hC : C0.length ≤ i0) : ∀ (m i l : Nat) (C : pc_C) (s : pc_S) (j l1 : Nat) (C1 : pc_C) (t : pc_S), okS N W tS i0 l0 C0 i l C s → pc_lg tk c op f kp m i l C s = .ok (j, l1, C1, t) → okS N W tS i0 l0 C0 j l1 C1 t := by
  intro m
  induction m with
  | zero =>
    intro i l C s j l1 C1 t hs h
    cases h
    exact hs
  | succ m ih =>
    intro i l C s j l1 C1 t hs h
    unfold pc_lg at h
    split at h
    · obtain ⟨j2, l2, C2, t2, e1, h⟩ := pc_b_ok h
      have hl : (C ++ [((op, 0) : Int32 × Int32)]).length = C.length + 1 := by rw [List.length_append]; rfl
      have h3 := hs.1.2.2.1
      exact ih _ _ _ _ _ _ _ _ (ok_lg ho hs (hk _ _ _ _ _ _ _ (by rw [hl]; omega) e1) hC hN) h
    · cases h
      exact hs
theorem both_ok {kt : Nat → Nat → Nat → pc_C → pc_R pc_S} (hN : ∀ k, N ≤ k → tk k = 0) (hN4 : N ≤ 1000) (hW : W = if ord = true then 21 else 8) (hk : ∀ d i l C j l1 C1 s, C.length ≤ i → kt d i l C = .ok (j, l1, C1, s) → okS N W tS i l C j l1 C1 s) {d i l j l1 : Nat} {C C1 : pc_C} {s : pc_S} (hC : C.length ≤ i) (h : pc_both ord tk vl kt d i l C = .ok (j, l1, C1, s)) : okS N W tS i l C j l1 C1 s := by
  unfold pc_both at h
  obtain ⟨j2, l2, C2, t, e1, h⟩ := pc_b_ok h
  exact lgl_ok (Or.inr ⟨rfl, rfl⟩) (fun i l C j l1 C1 s hc z => plain_ok hN hW hk hc z) hN4 hC _ _ _ _ _ _ _ _ _ (plain_ok hN hW hk hC e1) h
theorem test_ok (hN : ∀ k, N ≤ k → tk k = 0) (hN4 : N ≤ 1000) (hW : W = if ord = true then 21 else 8) : ∀ (n d i l : Nat) (C : pc_C) (j l1 : Nat) (C1 : pc_C) (s : pc_S), C.length ≤ i → pc_test ord tk vl n d i l C = .ok (j, l1, C1, s) → okS N W tS i l C j l1 C1 s := by
  intro n
  induction n with
  | zero =>
    intro d i l C j l1 C1 s _ h
    cases h
  | succ n ih =>
    intro d i l C j l1 C1 s hC h
    unfold pc_test at h
    obtain ⟨j2, l2, C2, t, e1, h⟩ := pc_b_ok h
    exact lgl_ok (Or.inl ⟨rfl, rfl⟩) (fun i l C j l1 C1 s hc z => both_ok hN hN4 hW ih hc z) hN4 hC _ _ _ _ _ _ _ _ _ (both_ok hN hN4 hW ih hC e1) h
end
end
