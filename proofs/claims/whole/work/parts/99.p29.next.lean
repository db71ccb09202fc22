section
/-! Next to one another, one way or the other. -/
variable {n a b : Nat}
theorem foll_mem : ∀ {r : List Nat}, foll a b r = true → b ∈ r
  | [], h => by cases h
  | p :: r, h => by
    have h : (if p = a then decide (r.head? = some b) else foll a b r) = true := h
    split at h
    · exact List.mem_cons_of_mem _ (List.mem_of_mem_head? (of_decide_eq_true h))
    · exact List.mem_cons_of_mem _ (foll_mem h)
theorem mo_a : ∀ {r : List Nat} {U : Nat}, foll a b r = true → (mo a U r).testBit a = true
  | [], _, h => by cases h
  | p :: r, U, h => by
    have h : (if p = a then decide (r.head? = some b) else foll a b r) = true := h
    show (if p = a then U ||| 2 ^ a else mo a (U ||| 2 ^ p) r).testBit a = true
    split at h
    · rename_i e; rw [if_pos e, bit_or]; simp
    · rename_i e; rw [if_neg e]; exact mo_a h
theorem mo_b (hab : a ≠ b) : ∀ {r : List Nat} {U : Nat}, r.Nodup → U.testBit b = false → foll a b r = true → (mo a U r).testBit b = false
  | [], _, _, _, h => by cases h
  | p :: r, U, hnd, hU, h => by
    have h : (if p = a then decide (r.head? = some b) else foll a b r) = true := h
    show (if p = a then U ||| 2 ^ a else mo a (U ||| 2 ^ p) r).testBit b = false
    rw [List.nodup_cons] at hnd
    split at h
    · rename_i e; rw [if_pos e, bit_or, hU, decide_eq_false fun q => hab q.symm]; rfl
    · rename_i e
      rw [if_neg e]
      exact mo_b hab hnd.2 (by rw [bit_or, hU, decide_eq_false fun q => hnd.1 (by rw [← q]; exact foll_mem h)]; rfl) h
theorem cnt_smf {P : List Nat → Bool} {g : List Nat → Nat} {N : Nat} : ∀ {l : List (List Nat)}, (∀ r, r ∈ l → g r < N) → l.countP P = smf (fun M => l.countP fun r => P r && decide (g r = M)) N
  | [], _ => by show 0 = smf (fun _ => 0) N; rw [smf_0]
  | x :: l, h => by
    have ih := cnt_smf (P := P) (g := g) (N := N) (l := l) fun r hr => h r (List.mem_cons_of_mem _ hr)
    have e : ∀ M, M < N → (x :: l).countP (fun r => P r && decide (g r = M)) = l.countP (fun r => P r && decide (g r = M)) + (if P x = true ∧ g x = M then 1 else 0) := fun M _ => by
      rw [List.countP_cons]
      congr 1
      simp only [Bool.and_eq_true, decide_eq_true_eq]
    rw [List.countP_cons, smf_cg e, smf_add, ih, smf_one (f := fun M => if P x = true ∧ g x = M then 1 else 0) (x := g x) fun p _ hp => if_neg fun q => hp q.2.symm, if_pos (h x List.mem_cons_self)]
    simp
theorem foll_ix : ∀ {L : List Nat}, L.Nodup → (foll a b L = true ↔ ∃ i, i + 1 < L.length ∧ L.getD i 0 = a ∧ L.getD (i + 1) 0 = b)
  | [], _ => ⟨(fun h => by cases h), (fun ⟨_, h, _⟩ => absurd h (Nat.not_lt_zero _))⟩
  | p :: L, hnd => by
    rw [List.nodup_cons] at hnd
    show (if p = a then decide (L.head? = some b) else foll a b L) = true ↔ _
    by_cases e : p = a
    · rw [if_pos e, decide_eq_true_eq]
      constructor
      · intro h
        cases L with
        | nil => cases h
        | cons q L =>
          refine ⟨0, by rw [List.length_cons, List.length_cons]; omega, e, ?_⟩
          exact Option.some.inj h
      · rintro ⟨i, h1, h2, h3⟩
        cases i with
        | zero =>
          cases L with
          | nil => rw [List.length_cons, List.length_nil] at h1; omega
          | cons q L => exact congrArg some h3
        | succ i =>
          exfalso
          rw [List.length_cons] at h1
          have h2 : L.getD i 0 = a := h2
          rw [List.getD_eq_getElem?_getD, List.getElem?_eq_getElem (by omega)] at h2
          have h2 : L[i] = a := h2
          exact hnd.1 (by rw [e, ← h2]; exact List.getElem_mem _)
    · rw [if_neg e, foll_ix hnd.2]
      constructor
      · rintro ⟨i, h1, h2, h3⟩
        exact ⟨i + 1, by rw [List.length_cons]; omega, h2, h3⟩
      · rintro ⟨i, h1, h2, h3⟩
        cases i with
        | zero => exact absurd h2 e
        | succ i => exact ⟨i, by rw [List.length_cons] at h1; omega, h2, h3⟩
variable {r : List Nat}
theorem rowg_rev (hr : r.length + 1 = n) {i : Nat} (hi : i < n) : rowg r.reverse i = rowg r ((n - i) % n) := by
  unfold rowg
  cases i with
  | zero => rw [Nat.sub_zero, Nat.mod_self]; rfl
  | succ i =>
    rw [Nat.mod_eq_of_lt (by omega), show n - (i + 1) = (n - 1 - (i + 1)) + 1 by omega]
    show r.reverse.getD i 0 = r.getD (n - 1 - (i + 1)) 0
    rw [List.getD_eq_getElem?_getD, List.getD_eq_getElem?_getD, List.getElem?_reverse (by omega), show r.length - 1 - i = n - 1 - (i + 1) by omega]
theorem row_nd (hnd : r.Nodup) (h0 : ∀ x, x ∈ r → x ≠ 0) : (0 :: r).Nodup := List.nodup_cons.mpr ⟨fun h => h0 0 h rfl, hnd⟩
theorem next_two (hr : r.length + 1 = n) (h3 : 3 ≤ n) (hnd : r.Nodup) (h0 : ∀ x, x ∈ r → x ≠ 0) (hab : a < b) : (adjp n r a b).toNat = (foll a b (0 :: r)).toNat + (foll a b (0 :: r.reverse)).toNat := by
  have f1 : foll a b (0 :: r) = true ↔ ∃ i, i + 1 < n ∧ rowg r i = a ∧ rowg r (i + 1) = b := by
    rw [foll_ix (row_nd hnd h0), List.length_cons, hr]; rfl
  have f2 : foll a b (0 :: r.reverse) = true ↔ ∃ i, i + 1 < n ∧ rowg r ((n - i) % n) = a ∧ rowg r (n - (i + 1)) = b := by
    rw [foll_ix (row_nd (nodup_rev hnd) fun x hx => h0 x (List.mem_reverse.mp hx)), List.length_cons, List.length_reverse, hr]
    constructor
    · rintro ⟨i, h1, h2, h4⟩
      have h2 : rowg r.reverse i = a := h2
      have h4 : rowg r.reverse (i + 1) = b := h4
      rw [rowg_rev hr (by omega)] at h2 h4
      rw [Nat.mod_eq_of_lt (show n - (i + 1) < n by omega)] at h4
      exact ⟨i, h1, h2, h4⟩
    · rintro ⟨i, h1, h2, h4⟩
      refine ⟨i, h1, ?_, ?_⟩
      · show rowg r.reverse i = a
        rw [rowg_rev hr (by omega)]; exact h2
      · show rowg r.reverse (i + 1) = b
        rw [rowg_rev hr (by omega), Nat.mod_eq_of_lt (show n - (i + 1) < n by omega)]; exact h4
  have fa : adjp n r a b = true ↔ (foll a b (0 :: r) = true ∨ foll a b (0 :: r.reverse) = true) := by
    rw [f1, f2]
    unfold adjp
    rw [anyb_iff]
    constructor
    · rintro ⟨i, hi, h⟩
      unfold cyA at h
      simp only [Bool.or_eq_true, Bool.and_eq_true, decide_eq_true_eq] at h
      rcases h with ⟨h1, h2⟩ | ⟨h1, h2⟩
      · by_cases z : i + 1 < n
        · rw [Nat.mod_eq_of_lt z] at h2
          exact Or.inl ⟨i, z, h1, h2⟩
        · rw [show i + 1 = n by omega, Nat.mod_self] at h2
          have h2 : 0 = b := h2
          omega
      · cases i with
        | zero =>
          have h1 : 0 = b := h1
          omega
        | succ i =>
          refine Or.inr ⟨n - (i + 1 + 1), by omega, ?_, ?_⟩
          · rw [show n - (n - (i + 1 + 1)) = i + 1 + 1 by omega]; exact h2
          · rw [show n - (n - (i + 1 + 1) + 1) = i + 1 by omega]; exact h1
    · rintro (⟨i, h1, h2, h4⟩ | ⟨i, h1, h2, h4⟩)
      · refine ⟨i, by omega, ?_⟩
        unfold cyA
        rw [Nat.mod_eq_of_lt h1]
        simp [h2, h4]
      · refine ⟨n - (i + 1), by omega, ?_⟩
        unfold cyA
        rw [show n - (i + 1) + 1 = n - i by omega]
        simp [h2, h4]
  have fx : ¬ (foll a b (0 :: r) = true ∧ foll a b (0 :: r.reverse) = true) := by
    rw [f1, f2]
    rintro ⟨⟨i, h1, h2, h4⟩, ⟨j, g1, g2, g4⟩⟩
    have e1 := row_in hr hnd h0 (show i + 1 < n by omega) (show n - (j + 1) < n by omega) (h4.trans g4.symm)
    have e2 := row_in hr hnd h0 (show i < n by omega) (Nat.mod_lt (n - j) (by omega)) (h2.trans g2.symm)
    rw [show n - j = i + 2 by omega] at e2
    by_cases z : i + 2 = n
    · rw [z, Nat.mod_self] at e2; omega
    · rw [Nat.mod_eq_of_lt (by omega)] at e2; omega
  cases q1 : foll a b (0 :: r) <;> cases q2 : foll a b (0 :: r.reverse) <;> rw [q1, q2] at fa fx <;> cases q3 : adjp n r a b <;> rw [q3] at fa <;> simp at fa fx ⊢
/-- of the rows that go one way, in so many they are next -/
theorem next_cnt {fit : List Nat → Bool} (h3 : 3 ≤ n) (hab : a < b) (hf : ∀ r, r ∈ rws n (n - 1) 1 → fit r.reverse = fit r) : sLs (fun r => if (ori r && fit r) = true then incN n r a b else 0) (rws n (n - 1) 1) = (rws n (n - 1) 1).countP fun r => fit r && foll a b (0 :: r) := by
  have hm : ∀ r, r ∈ rws n (n - 1) 1 → r.length + 1 = n ∧ r.Nodup ∧ ∀ x, x ∈ r → x ≠ 0 := fun r hr => by
    obtain ⟨r1, r2, r4⟩ := mem_rws.mp hr
    refine ⟨by omega, r2, fun x hx e => ?_⟩
    have := (r4 x hx).2
    rw [e] at this
    cases this
  have e1 : sLs (fun r => if (ori r && fit r) = true then incN n r a b else 0) (rws n (n - 1) 1) = (rws n (n - 1) 1).countP fun r => ori r && (fit r && adjp n r a b) := by
    rw [← Nat.mul_one ((rws n (n - 1) 1).countP _), ← sLs_c]
    refine sLs_cg fun r hr => ?_
    obtain ⟨m1, m2, m3⟩ := hm r hr
    have i1 := inc_1 m1 h3 m2 m3 a b
    rw [adj_inc hab, ← Bool.and_assoc]
    cases ori r && fit r
    · rfl
    · by_cases z : 1 ≤ incN n r a b
      · rw [decide_eq_true z]; simp; omega
      · rw [decide_eq_false z]; simp; omega
  have two : ∀ r, r ∈ rws n (n - 1) 1 → (adjp n r a b).toNat = (foll a b (0 :: r)).toNat + (foll a b (0 :: r.reverse)).toNat := fun r hr => by
    obtain ⟨m1, m2, m3⟩ := hm r hr
    exact next_two m1 h3 m2 m3 hab
  have e2 := cnt_half (n := n) (k := n - 1) (U := 1) (P := fun r => fit r && adjp n r a b) (by omega) fun r hr => by
    have t1 := two r hr
    have t2 := two r.reverse (rev_mem hr)
    rw [List.reverse_reverse] at t2
    have : (adjp n r.reverse a b).toNat = (adjp n r a b).toNat := by omega
    show (fit r.reverse && adjp n r.reverse a b) = (fit r && adjp n r a b)
    rw [hf r hr]
    congr 1
    cases q1 : adjp n r.reverse a b <;> cases q2 : adjp n r a b <;> rw [q1, q2] at this <;> first | rfl | cases this
  have e3 : (rws n (n - 1) 1).countP (fun r => fit r && adjp n r a b) = (rws n (n - 1) 1).countP (fun r => fit r && foll a b (0 :: r)) + (rws n (n - 1) 1).countP (fun r => fit r && foll a b (0 :: r.reverse)) := by
    revert two
    generalize rws n (n - 1) 1 = l
    intro two
    clear e1 e2 hm hf
    induction l with
    | nil => rfl
    | cons x l ih =>
      have t := two x List.mem_cons_self
      rw [List.countP_cons, List.countP_cons, List.countP_cons, ih fun r hr => two r (List.mem_cons_of_mem _ hr)]
      cases fit x
      · simp
      · cases q1 : adjp n x a b <;> cases q2 : foll a b (0 :: x) <;> cases q3 : foll a b (0 :: x.reverse) <;> rw [q1, q2, q3] at t <;> simp at t ⊢ <;> omega
  have e4 : (rws n (n - 1) 1).countP (fun r => fit r && foll a b (0 :: r.reverse)) = (rws n (n - 1) 1).countP (fun r => fit r && foll a b (0 :: r)) := by
    rw [cnt_rev (P := fun r => fit r && foll a b (0 :: r))]
    refine List.countP_congr fun r hr => ?_
    rw [hf r hr]
  omega
end
