section
/-! Which rings fit what was seen. -/
variable {lo hi : Nat → Nat} {is : Nat → Int32} {c0 : Nat → Nat → Nat} {K n : Nat}
theorem aSk_bit (p : Nat) : ∀ k, (aSk lo hi is k).testBit p = anyb (fun i => !decide (is i = 0) && decide (lo i * 8 + hi i = p)) k
  | 0 => Nat.zero_testBit p
  | k + 1 => by
    show (if is k = 0 then aSk lo hi is k else aSk lo hi is k ||| 2 ^ (lo k * 8 + hi k)).testBit p = (anyb (fun i => !decide (is i = 0) && decide (lo i * 8 + hi i = p)) k || (!decide (is k = 0) && decide (lo k * 8 + hi k = p)))
    rw [← aSk_bit p k]
    by_cases z : is k = 0
    · rw [if_pos z, decide_eq_true z]; simp
    · rw [if_neg z, decide_eq_false z, bit_or]
      simp only [Bool.not_false, Bool.true_and]
      congr 1
      exact decide_eq_decide.mpr ⟨fun q => q.symm, fun q => q.symm⟩
def pz (lo hi : Nat → Nat) (is : Nat → Int32) (K a b : Nat) : Bool := decide (a < b) && sqK lo hi is false a b K
theorem pop_s (x : Nat) : pop (x % 256) = smf (fun b => (x.testBit b).toNat) 8 := by
  have e : ∀ b, b < 8 → (x % 256).testBit b = x.testBit b := fun b hb => by
    rw [show (256 : Nat) = 2 ^ 8 from rfl, Nat.testBit_mod_two_pow, decide_eq_true hb, Bool.true_and]
  unfold pop
  rw [e 0 (by omega), e 1 (by omega), e 2 (by omega), e 3 (by omega), e 4 (by omega), e 5 (by omega), e 6 (by omega), e 7 (by omega)]
  show _ = 0 + (x.testBit 0).toNat + (x.testBit 1).toNat + (x.testBit 2).toNat + (x.testBit 3).toNat + (x.testBit 4).toNat + (x.testBit 5).toNat + (x.testBit 6).toNat + (x.testBit 7).toNat
  omega
theorem pop64_s (A : Nat) : pop64 A = smf (fun a => smf (fun b => (A.testBit (8 * a + b)).toNat) 8) 8 := by
  have d : ∀ x b, (x / 256).testBit b = x.testBit (8 + b) := fun x b => by rw [show (256 : Nat) = 2 ^ 8 from rfl, Nat.testBit_div_two_pow, Nat.add_comm]
  unfold pop64
  simp only [pop_s, d]
  show _ = 0 + _ + _ + _ + _ + _ + _ + _ + _
  simp only [show ∀ b, 8 * 0 + b = b from fun b => by omega, show ∀ b, 8 * 1 + b = 8 + b from fun b => by omega, show ∀ b, 8 * 2 + b = 8 + (8 + b) from fun b => by omega, show ∀ b, 8 * 3 + b = 8 + (8 + (8 + b)) from fun b => by omega, show ∀ b, 8 * 4 + b = 8 + (8 + (8 + (8 + b))) from fun b => by omega, show ∀ b, 8 * 5 + b = 8 + (8 + (8 + (8 + (8 + b)))) from fun b => by omega, show ∀ b, 8 * 6 + b = 8 + (8 + (8 + (8 + (8 + (8 + b))))) from fun b => by omega, show ∀ b, 8 * 7 + b = 8 + (8 + (8 + (8 + (8 + (8 + (8 + b)))))) from fun b => by omega]
theorem pop_pz (hl : ∀ i, i < K → lo i < hi i ∧ hi i < 8) : pop64 (aSk lo hi is K) = smf (fun a => smf (fun b => (pz lo hi is K a b).toNat) 8) 8 := by
  rw [pop64_s]
  refine smf_cg fun a ha => smf_cg fun b hb => ?_
  congr 1
  rw [aSk_bit]
  unfold pz sqK
  have key : (anyb (fun i => !decide (is i = 0) && decide (lo i * 8 + hi i = 8 * a + b)) K = true) ↔ ((decide (a < b) && anyb (sq lo hi is false a b) K) = true) := by
    rw [Bool.and_eq_true, anyb_iff, anyb_iff, decide_eq_true_eq]
    constructor
    · rintro ⟨i, hi1, h⟩
      simp only [Bool.and_eq_true, Bool.not_eq_true', decide_eq_false_iff_not, decide_eq_true_eq] at h
      have := hl i hi1
      have e1 : lo i = a := by omega
      have e2 : hi i = b := by omega
      refine ⟨by omega, i, hi1, ?_⟩
      unfold sq
      rw [decide_eq_false h.1, e1, e2]
      simp
    · rintro ⟨hab, i, hi1, h⟩
      refine ⟨i, hi1, ?_⟩
      unfold sq at h
      have := hl i hi1
      simp only [Bool.and_eq_true, Bool.or_eq_true, decide_eq_true_eq, beq_iff_eq, decide_eq_false_iff_not] at h
      simp only [Bool.and_eq_true, Bool.not_eq_true', decide_eq_false_iff_not, decide_eq_true_eq]
      refine ⟨h.1, ?_⟩
      omega
  cases q : anyb (fun i => !decide (is i = 0) && decide (lo i * 8 + hi i = 8 * a + b)) K
  · cases q2 : (decide (a < b) && anyb (sq lo hi is false a b) K)
    · rfl
    · rw [key.2 q2] at q; cases q
  · rw [key.1 q]
variable {c2 : Nat → Nat → Nat} {ρ : Nat → Int32} {r : List Nat}
theorem fit_iff (h3 : 3 ≤ n) (hn : n ≤ 8) (hr : r.length + 1 = n) (hnd : r.Nodup) (h0 : ∀ x, x ∈ r → x ≠ 0) (hx8 : ∀ i, rowg r i < n) (h1 : ∀ a b, c2 a b = 1 ∨ c2 a b = 1000000) (h20 : ∀ a b, cc8 c2 a b < 1000000 ↔ c0 a b < 1000000) (hl : ∀ i, i < K → lo i < hi i ∧ hi i < n) (hsp : nat (ρ 55) = K) (hsn : ∀ i, i < K → ((nat (ρ (33 + 3 * i)) = lo i ∧ nat (ρ (34 + 3 * i)) = hi i) ∨ (nat (ρ (33 + 3 * i)) = hi i ∧ nat (ρ (34 + 3 * i)) = lo i)) ∧ ρ (35 + 3 * i) = is i ∧ (is i = 0 ∨ is i = 1)) : n ≤ pth false (cc8 (cSk lo hi is c2 K)) 0 0 r + pop64 (aSk lo hi is K) ∧ ((finr c0 0 r && soP n ρ r) = true ↔ pth false (cc8 (cSk lo hi is c2 K)) 0 0 r + pop64 (aSk lo hi is K) = n) := by
  have cS1 : ∀ a b, cc8 (cSk lo hi is c2 K) a b ≤ 1 ∨ cc8 (cSk lo hi is c2 K) a b = 1000000 := fun a b => by
    unfold cc8
    by_cases z : a < 8 ∧ b < 8
    · rw [if_pos z]
      rcases cSk_v (lo := lo) (hi := hi) (is := is) h1 K a b with e | e | e <;> rw [e] <;> omega
    · rw [if_neg z]; exact Or.inr rfl
  obtain ⟨p1, p2⟩ := pth_ix cS1 r 0 (by omega)
  have eY : ∀ i, i < n → nxr r i = rowg r ((i + 1) % n) := fun i hi => (nx_row hr hi).symm
  have mY : ∀ i, (i + 1) % n < n := fun i => Nat.mod_lt _ (by omega)
  rw [hr] at p1 p2
  have eA : allb (fun i => decide (cc8 (cSk lo hi is c2 K) ((0 :: r).getD i 0) (nxr r i) < 1000000)) n = allb (fun i => decide (cc8 (cSk lo hi is c2 K) (rowg r i) (rowg r ((i + 1) % n)) < 1000000)) n := allb_cg fun i hi => by rw [eY i hi]; rfl
  have eS : smf (fun i => cc8 (cSk lo hi is c2 K) ((0 :: r).getD i 0) (nxr r i)) n = smf (fun i => cc8 (cSk lo hi is c2 K) (rowg r i) (rowg r ((i + 1) % n))) n := smf_cg fun i hi => by rw [eY i hi]; rfl
  rw [eA, eS] at p1 p2
  have fI : finr c0 0 r = allb (fun i => decide (c0 (rowg r i) (rowg r ((i + 1) % n)) < 1000000)) n := by
    rw [fin_ix, hr]
    exact allb_cg fun i hi => by rw [eY i hi]; rfl
  have c8 : ∀ i, cc8 (cSk lo hi is c2 K) (rowg r i) (rowg r ((i + 1) % n)) = cSk lo hi is c2 K (rowg r i) (rowg r ((i + 1) % n)) := fun i => if_pos ⟨by have := hx8 i; omega, by have := hx8 ((i + 1) % n); omega⟩
  have d8 : ∀ i, cc8 c2 (rowg r i) (rowg r ((i + 1) % n)) = c2 (rowg r i) (rowg r ((i + 1) % n)) := fun i => if_pos ⟨by have := hx8 i; omega, by have := hx8 ((i + 1) % n); omega⟩
  -- one hold
  have hold : ∀ i, cSk lo hi is c2 K (rowg r i) (rowg r ((i + 1) % n)) < 1000000 ↔ c0 (rowg r i) (rowg r ((i + 1) % n)) < 1000000 ∧ sqK lo hi is true (rowg r i) (rowg r ((i + 1) % n)) K = false := fun i => by
    rw [← h20, d8]
    unfold cSk
    cases sqK lo hi is true (rowg r i) (rowg r ((i + 1) % n)) K
    · rw [if_neg (by decide)]
      rcases h1 (rowg r i) (rowg r ((i + 1) % n)) with e | e <;> rw [e]
      · split
        · rw [if_neg (by decide)]; simp
        · simp
      · split
        · rw [if_pos rfl]; simp
        · simp
    · rw [if_pos rfl]; simp
  have hold2 : ∀ i, cSk lo hi is c2 K (rowg r i) (rowg r ((i + 1) % n)) < 1000000 → cSk lo hi is c2 K (rowg r i) (rowg r ((i + 1) % n)) + (sqK lo hi is false (rowg r i) (rowg r ((i + 1) % n)) K).toNat = 1 := fun i h => by
    have h := (hold i).1 h
    rw [← h20, d8] at h
    unfold cSk
    rw [if_neg (by rw [h.2]; decide)]
    rcases h1 (rowg r i) (rowg r ((i + 1) % n)) with e | e
    · rw [e]
      cases sqK lo hi is false (rowg r i) (rowg r ((i + 1) % n)) K
      · rw [if_neg (by decide)]; rfl
      · rw [if_pos rfl, if_neg (by decide)]; rfl
    · rw [e] at h; omega
  have ne : ∀ i, i < n → rowg r i ≠ rowg r ((i + 1) % n) := fun i hi e => by
    have := row_in hr hnd h0 hi (mY i) e
    have w : (i + 1) % n = if i + 1 = n then 0 else i + 1 := by
      split
      · rename_i q; rw [q, Nat.mod_self]
      · exact Nat.mod_eq_of_lt (by omega)
    rw [w] at this
    split at this <;> omega
  have sqm : ∀ z x y, sqK lo hi is z x y K = sqK lo hi is z (min x y) (max x y) K := fun z x y => by
    rcases Nat.le_total x y with q | q
    · rw [Nat.min_eq_left q, Nat.max_eq_right q]
    · rw [Nat.min_eq_right q, Nat.max_eq_left q, sqK_cm]
  -- asked among the holds
  have hD : smf (fun i => (sqK lo hi is false (rowg r i) (rowg r ((i + 1) % n)) K).toNat) n = smf (fun a => smf (fun b => (pz lo hi is K a b).toNat * incN n r a b) 8) 8 := by
    have e := dbl (r := r) (n := n) (fun a b => (pz lo hi is K a b).toNat) fun i hi => ⟨by have := hx8 i; omega, by have := hx8 ((i + 1) % n); omega⟩
    rw [← e]
    refine smf_cg fun i hi => ?_
    have := ne i hi
    unfold pz
    rw [sqm, decide_eq_true (show min (rowg r i) (rowg r ((i + 1) % n)) < max (rowg r i) (rowg r ((i + 1) % n)) by omega), Bool.true_and]
  have hP := pop_pz (is := is) (K := K) (lo := lo) (hi := hi) fun i hi => ⟨(hl i hi).1, by have := (hl i hi).2; omega⟩
  have i1 : ∀ a b, incN n r a b ≤ 1 := fun a b => inc_1 hr h3 hnd h0 a b
  have le1 : ∀ a b, (pz lo hi is K a b).toNat * incN n r a b ≤ (pz lo hi is K a b).toNat := fun a b => by
    have := i1 a b
    cases pz lo hi is K a b
    · simp
    · simp; exact this
  have hDP : smf (fun a => smf (fun b => (pz lo hi is K a b).toNat * incN n r a b) 8) 8 ≤ pop64 (aSk lo hi is K) := by
    rw [hP]
    exact smf_le fun a _ => smf_le fun b _ => le1 a b
  have hfin : allb (fun i => decide (cc8 (cSk lo hi is c2 K) (rowg r i) (rowg r ((i + 1) % n)) < 1000000)) n = true ↔ ∀ i, i < n → cSk lo hi is c2 K (rowg r i) (rowg r ((i + 1) % n)) < 1000000 := by
    rw [allb_iff]
    exact ⟨fun h i hi => by have := h i hi; rw [decide_eq_true_eq, c8] at this; exact this, fun h i hi => by rw [decide_eq_true_eq, c8]; exact h i hi⟩
  have hsum : (∀ i, i < n → cSk lo hi is c2 K (rowg r i) (rowg r ((i + 1) % n)) < 1000000) → pth false (cc8 (cSk lo hi is c2 K)) 0 0 r + smf (fun a => smf (fun b => (pz lo hi is K a b).toNat * incN n r a b) 8) 8 = n := fun h => by
    rw [p1, if_pos (hfin.2 h), ← hD, ← smf_add, smf_cg (g := fun _ => 1) fun i hi => by rw [c8]; exact hold2 i (h i hi)]
    have : ∀ m, smf (fun _ => 1) m = m := fun m => by
      induction m with
      | zero => rfl
      | succ m ih => show smf (fun _ => 1) m + 1 = _; rw [ih]
    exact this n
  have hno : ¬ (∀ i, i < n → cSk lo hi is c2 K (rowg r i) (rowg r ((i + 1) % n)) < 1000000) → pth false (cc8 (cSk lo hi is c2 K)) 0 0 r = 1000000 := fun h => by
    rw [p1, if_neg fun q => h (hfin.1 q)]
  -- a pair among the holds
  have adjw : ∀ a b, adjp n r a b = true ↔ ∃ i, i < n ∧ ((rowg r i = a ∧ rowg r ((i + 1) % n) = b) ∨ (rowg r i = b ∧ rowg r ((i + 1) % n) = a)) := fun a b => by
    unfold adjp
    rw [anyb_iff]
    constructor
    · rintro ⟨i, hi1, h⟩
      refine ⟨i, hi1, ?_⟩
      unfold cyA at h
      simpa only [Bool.or_eq_true, Bool.and_eq_true, decide_eq_true_eq] using h
    · rintro ⟨i, hi1, h⟩
      refine ⟨i, hi1, ?_⟩
      unfold cyA
      simpa only [Bool.or_eq_true, Bool.and_eq_true, decide_eq_true_eq] using h
  have sqw : ∀ z a b, sqK lo hi is z a b K = true ↔ ∃ k, k < K ∧ decide (is k = 0) = z ∧ ((lo k = a ∧ hi k = b) ∨ (lo k = b ∧ hi k = a)) := fun z a b => by
    unfold sqK
    rw [anyb_iff]
    constructor
    · rintro ⟨i, hi1, h⟩
      refine ⟨i, hi1, ?_⟩
      unfold sq at h
      simpa only [Bool.or_eq_true, Bool.and_eq_true, decide_eq_true_eq, beq_iff_eq] using h
    · rintro ⟨i, hi1, h⟩
      refine ⟨i, hi1, ?_⟩
      unfold sq
      simpa only [Bool.or_eq_true, Bool.and_eq_true, decide_eq_true_eq, beq_iff_eq] using h
  have soW : soP n ρ r = true ↔ ∀ k, k < K → adjp n r (lo k) (hi k) = decide (is k = 1) := by
    unfold soP
    rw [hsp, allb_iff]
    constructor
    · intro h k hk
      have := h k hk
      obtain ⟨q1, q2, -⟩ := hsn k hk
      rw [beq_iff_eq, q2] at this
      rcases q1 with ⟨x1, x2⟩ | ⟨x1, x2⟩
      · rw [x1, x2] at this; exact this
      · rw [x1, x2, adj_cm] at this; exact this
    · intro h k hk
      obtain ⟨q1, q2, -⟩ := hsn k hk
      rw [beq_iff_eq, q2]
      rcases q1 with ⟨x1, x2⟩ | ⟨x1, x2⟩
      · rw [x1, x2]; exact h k hk
      · rw [x1, x2, adj_cm]; exact h k hk
  by_cases hA : ∀ i, i < n → cSk lo hi is c2 K (rowg r i) (rowg r ((i + 1) % n)) < 1000000
  · have hs := hsum hA
    refine ⟨by omega, ?_⟩
    have hf0 : finr c0 0 r = true := by
      rw [fI, allb_iff]
      exact fun i hi => decide_eq_true ((hold i).1 (hA i hi)).1
    rw [hf0, Bool.true_and, soW]
    constructor
    · intro h
      have : smf (fun a => smf (fun b => (pz lo hi is K a b).toNat * incN n r a b) 8) 8 = pop64 (aSk lo hi is K) := by
        rw [hP]
        refine smf_cg fun a _ => smf_cg fun b _ => ?_
        cases q : pz lo hi is K a b
        · simp
        · have hab : a < b := by
            unfold pz at q
            simp only [Bool.and_eq_true, decide_eq_true_eq] at q
            exact q.1
          have hq : sqK lo hi is false a b K = true := by
            unfold pz at q
            simp only [Bool.and_eq_true] at q
            exact q.2
          obtain ⟨k, hk, z1, z2⟩ := (sqw false a b).1 hq
          have hlk := hl k hk
          have e1 : lo k = a ∧ hi k = b := by omega
          have z0 : ¬ is k = 0 := of_decide_eq_false z1
          have z3 := (hsn k hk).2.2.resolve_left z0
          have := h k hk
          rw [e1.1, e1.2, decide_eq_true z3, adj_inc hab] at this
          have := of_decide_eq_true this
          have := i1 a b
          simp
          omega
      omega
    · intro h k hk
      have hlk := hl k hk
      have eD : smf (fun a => smf (fun b => (pz lo hi is K a b).toNat * incN n r a b) 8) 8 = smf (fun a => smf (fun b => (pz lo hi is K a b).toNat) 8) 8 := by
        rw [← hP]; omega
      rcases (hsn k hk).2.2 with z | z
      · rw [z, show decide ((0 : Int32) = 1) = false by decide]
        cases q : adjp n r (lo k) (hi k)
        · rfl
        · exfalso
          obtain ⟨i, hi1, h2⟩ := (adjw _ _).1 q
          have h4 := ((hold i).1 (hA i hi1)).2
          have h5 : sqK lo hi is true (rowg r i) (rowg r ((i + 1) % n)) K = true := (sqw true _ _).2 ⟨k, hk, decide_eq_true z, by omega⟩
          rw [h5] at h4
          cases h4
      · rw [z, show decide ((1 : Int32) = 1) = true by decide, adj_inc hlk.1]
        have hpz : pz lo hi is K (lo k) (hi k) = true := by
          unfold pz
          rw [decide_eq_true hlk.1, Bool.true_and]
          exact (sqw false _ _).2 ⟨k, hk, by rw [z]; decide, Or.inl ⟨rfl, rfl⟩⟩
        have a1 := smf_eq (fun a _ => smf_le fun b _ => le1 a b) eD (lo k) (by omega)
        have a2 := smf_eq (fun b _ => le1 (lo k) b) a1 (hi k) (by omega)
        rw [hpz] at a2
        have a2 : 1 * incN n r (lo k) (hi k) = 1 := a2
        exact decide_eq_true (by omega)
  · rw [hno hA]
    refine ⟨by omega, ?_⟩
    constructor
    · intro h
      exfalso
      rw [Bool.and_eq_true, fI, allb_iff, soW] at h
      refine hA fun i hi1 => (hold i).2 ⟨of_decide_eq_true (h.1 i hi1), ?_⟩
      cases q : sqK lo hi is true (rowg r i) (rowg r ((i + 1) % n)) K
      · rfl
      · exfalso
        obtain ⟨k, hk, z1, z2⟩ := (sqw true _ _).1 q
        have h2 := h.2 k hk
        have z0 : is k = 0 := of_decide_eq_true z1
        have h4 : adjp n r (lo k) (hi k) = true := (adjw _ _).2 ⟨i, hi1, by omega⟩
        rw [h4, z0] at h2
        exact absurd h2 (by decide)
    · intro h; omega
end
