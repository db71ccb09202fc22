section
/-! The holds of a ring, one by one. -/
theorem smf_sh (f : Nat → Nat) : ∀ m, smf f (m + 1) = f 0 + smf (fun i => f (i + 1)) m
  | 0 => by show 0 + f 0 = f 0 + 0; omega
  | m + 1 => by
    show smf f (m + 1) + f (m + 1) = f 0 + (smf (fun i => f (i + 1)) m + f (m + 1))
    rw [smf_sh f m]
    omega
theorem allb_sh (f : Nat → Bool) : ∀ m, allb f (m + 1) = (f 0 && allb (fun i => f (i + 1)) m)
  | 0 => by show (true && f 0) = (f 0 && true); rw [Bool.true_and, Bool.and_true]
  | m + 1 => by
    show (allb f (m + 1) && f (m + 1)) = (f 0 && (allb (fun i => f (i + 1)) m && f (m + 1)))
    rw [allb_sh f m, Bool.and_assoc]
theorem allb_cg {f g : Nat → Bool} : ∀ {m : Nat}, (∀ p, p < m → f p = g p) → allb f m = allb g m
  | 0, _ => rfl
  | m + 1, h => by
    show (allb f m && f m) = (allb g m && g m)
    rw [allb_cg (m := m) fun p hp => h p (by omega), h m (by omega)]
theorem allb_iff {f : Nat → Bool} : ∀ {m : Nat}, allb f m = true ↔ ∀ p, p < m → f p = true
  | 0 => ⟨fun _ p hp => absurd hp (Nat.not_lt_zero _), fun _ => rfl⟩
  | m + 1 => by
    show (allb f m && f m) = true ↔ _
    rw [Bool.and_eq_true, allb_iff]
    constructor
    · rintro ⟨h1, h2⟩ p hp
      by_cases z : p = m
      · rw [z]; exact h2
      · exact h1 p (by omega)
    · intro h
      exact ⟨fun p hp => h p (by omega), h m (by omega)⟩
theorem anyb_iff {f : Nat → Bool} : ∀ {m : Nat}, anyb f m = true ↔ ∃ p, p < m ∧ f p = true
  | 0 => ⟨(fun h => by cases h), fun ⟨p, h, _⟩ => absurd h (Nat.not_lt_zero _)⟩
  | m + 1 => by
    show (anyb f m || f m) = true ↔ _
    rw [Bool.or_eq_true, anyb_iff]
    constructor
    · rintro (⟨p, h1, h2⟩ | h)
      · exact ⟨p, by omega, h2⟩
      · exact ⟨m, by omega, h⟩
    · rintro ⟨p, h1, h2⟩
      by_cases z : p = m
      · exact Or.inr (z ▸ h2)
      · exact Or.inl ⟨p, by omega, h2⟩
theorem smf_add (f g : Nat → Nat) : ∀ m, smf (fun i => f i + g i) m = smf f m + smf g m
  | 0 => rfl
  | m + 1 => by
    show smf (fun i => f i + g i) m + (f m + g m) = smf f m + f m + (smf g m + g m)
    rw [smf_add f g m]
    omega
theorem smf_ex (f : Nat → Nat → Nat) (k : Nat) : ∀ m, smf (fun i => smf (fun j => f i j) k) m = smf (fun j => smf (fun i => f i j) m) k
  | 0 => (smf_0 k).symm
  | m + 1 => by
    show smf (fun i => smf (fun j => f i j) k) m + smf (fun j => f m j) k = smf (fun j => smf (fun i => f i j) m + f m j) k
    rw [smf_ex f k m, smf_add]
theorem smf_le {f g : Nat → Nat} : ∀ {m : Nat}, (∀ i, i < m → f i ≤ g i) → smf f m ≤ smf g m
  | 0, _ => Nat.le_refl _
  | m + 1, h => by
    have := smf_le (m := m) fun i hi => h i (by omega)
    have := h m (by omega)
    show smf f m + f m ≤ smf g m + g m
    omega
theorem smf_eq {f g : Nat → Nat} : ∀ {m : Nat}, (∀ i, i < m → f i ≤ g i) → smf f m = smf g m → ∀ i, i < m → f i = g i
  | 0, _, _, i, hi => absurd hi (Nat.not_lt_zero _)
  | m + 1, h, e, i, hi => by
    have h1 := smf_le (m := m) fun i hi => h i (by omega)
    have h2 := h m (by omega)
    have e : smf f m + f m = smf g m + g m := e
    by_cases z : i = m
    · rw [z]; omega
    · exact smf_eq (m := m) (fun i hi => h i (by omega)) (by omega) i (by omega)
theorem smf_1 {f : Nat → Nat} : ∀ {m : Nat}, (∀ i, i < m → f i ≤ 1) → (∀ i j, i < m → j < m → f i = 1 → f j = 1 → i = j) → smf f m ≤ 1
  | 0, _, _ => Nat.zero_le _
  | m + 1, h, hu => by
    have ih := smf_1 (m := m) (fun i hi => h i (by omega)) (fun i j hi hj => hu i j (by omega) (by omega))
    have h1 := h m (by omega)
    show smf f m + f m ≤ 1
    by_cases z : f m = 1
    · have : smf f m = 0 := by
        rw [smf_cg (g := fun _ => 0) fun i hi => ?_]
        · exact smf_0 m
        · have := h i (by omega)
          by_cases y : f i = 1
          · have := hu i m (by omega) (by omega) y z
            omega
          · omega
      omega
    · omega
def nxr (r : List Nat) (i : Nat) : Nat := if i < r.length then r.getD i 0 else 0
variable {c : Nat → Nat → Nat}
theorem pth_ix (h : ∀ a b, c a b ≤ 1 ∨ c a b = 1000000) : ∀ (r : List Nat) (a : Nat), r.length < 1000 → pth false c 0 a r = (if allb (fun i => decide (c ((a :: r).getD i 0) (nxr r i) < 1000000)) (r.length + 1) = true then smf (fun i => c ((a :: r).getD i 0) (nxr r i)) (r.length + 1) else 1000000) ∧ (allb (fun i => decide (c ((a :: r).getD i 0) (nxr r i) < 1000000)) (r.length + 1) = true → smf (fun i => c ((a :: r).getD i 0) (nxr r i)) (r.length + 1) ≤ r.length + 1)
  | [], a, _ => by
    have e1 : allb (fun i => decide (c (([a] : List Nat).getD i 0) (nxr [] i) < 1000000)) 1 = decide (c a 0 < 1000000) := by
      show (true && decide (c a 0 < 1000000)) = _
      rw [Bool.true_and]
    have e2 : smf (fun i => c (([a] : List Nat).getD i 0) (nxr [] i)) 1 = c a 0 := by
      show 0 + c a 0 = _
      omega
    show c a 0 = (if allb (fun i => decide (c (([a] : List Nat).getD i 0) (nxr [] i) < 1000000)) 1 = true then smf (fun i => c (([a] : List Nat).getD i 0) (nxr [] i)) 1 else 1000000) ∧ (allb (fun i => decide (c (([a] : List Nat).getD i 0) (nxr [] i) < 1000000)) 1 = true → smf (fun i => c (([a] : List Nat).getD i 0) (nxr [] i)) 1 ≤ 1)
    rw [e1, e2]
    simp only [decide_eq_true_eq]
    have := h a 0
    constructor
    · split <;> omega
    · intro; omega
  | p :: r, a, hl => by
    rw [List.length_cons] at hl
    obtain ⟨i1, i2⟩ := pth_ix h r p (by omega)
    have hx : ∀ i, (a :: p :: r).getD (i + 1) 0 = (p :: r).getD i 0 := fun i => rfl
    have hy : ∀ i, nxr (p :: r) (i + 1) = nxr r i := fun i => by
      unfold nxr
      rw [List.length_cons]
      by_cases z : i < r.length
      · rw [if_pos z, if_pos (by omega)]; rfl
      · rw [if_neg z, if_neg (by omega)]
    have h0 : nxr (p :: r) 0 = p := if_pos (by rw [List.length_cons]; omega)
    rw [List.length_cons, allb_sh, smf_sh]
    simp only [hx, hy]
    rw [h0, show (a :: p :: r).getD 0 0 = a from rfl]
    show rop false (c a p) (pth false c 0 p r) = _ ∧ _
    rw [i1, rop_f]
    have := h a p
    cases ha : allb (fun i => decide (c ((p :: r).getD i 0) (nxr r i) < 1000000)) (r.length + 1) with
    | true =>
      have := i2 ha
      rw [if_pos rfl, Bool.and_true]
      simp only [decide_eq_true_eq]
      constructor
      · split <;> omega
      · intro; omega
    | false =>
      rw [if_neg (by decide), Bool.and_false]
      exact ⟨by rw [if_neg (by decide)]; omega, fun z => by cases z⟩
theorem fin_ix : ∀ (r : List Nat) (a : Nat), finr c a r = allb (fun i => decide (c ((a :: r).getD i 0) (nxr r i) < 1000000)) (r.length + 1)
  | [], a => by
    show decide (c a 0 < 1000000) = (true && decide (c a 0 < 1000000))
    rw [Bool.true_and]
  | p :: r, a => by
    have hx : ∀ i, (a :: p :: r).getD (i + 1) 0 = (p :: r).getD i 0 := fun i => rfl
    have hy : ∀ i, nxr (p :: r) (i + 1) = nxr r i := fun i => by
      unfold nxr
      rw [List.length_cons]
      by_cases z : i < r.length
      · rw [if_pos z, if_pos (by omega)]; rfl
      · rw [if_neg z, if_neg (by omega)]
    have h0 : nxr (p :: r) 0 = p := if_pos (by rw [List.length_cons]; omega)
    rw [List.length_cons, allb_sh]
    simp only [hx, hy]
    rw [h0, show (a :: p :: r).getD 0 0 = a from rfl, ← fin_ix r p]
    rfl
theorem nx_row {n : Nat} {r : List Nat} (hr : r.length + 1 = n) {i : Nat} (hi : i < n) : rowg r ((i + 1) % n) = nxr r i := by
  unfold rowg nxr
  by_cases z : i < r.length
  · rw [if_pos z, Nat.mod_eq_of_lt (by omega)]
    rfl
  · rw [if_neg z, show i + 1 = n by omega, Nat.mod_self]
    rfl
theorem row_in {n : Nat} {r : List Nat} (hr : r.length + 1 = n) (hnd : r.Nodup) (h0 : ∀ x, x ∈ r → x ≠ 0) {i j : Nat} (hi : i < n) (hj : j < n) (e : rowg r i = rowg r j) : i = j := by
  have hnd' : (0 :: r).Nodup := List.nodup_cons.mpr ⟨fun z => h0 0 z rfl, hnd⟩
  unfold rowg at e
  rw [List.getD_eq_getElem?_getD, List.getD_eq_getElem?_getD, List.getElem?_eq_getElem (show i < (0 :: r).length by rw [List.length_cons]; omega), List.getElem?_eq_getElem (show j < (0 :: r).length by rw [List.length_cons]; omega)] at e
  have e : (0 :: r)[i]'(by rw [List.length_cons]; omega) = (0 :: r)[j]'(by rw [List.length_cons]; omega) := e
  rcases Nat.lt_trichotomy i j with z | z | z
  · exact absurd e (List.pairwise_iff_getElem.mp hnd' i j _ _ z)
  · exact z
  · exact absurd e.symm (List.pairwise_iff_getElem.mp hnd' j i _ _ z)
/-- no two holds of a ring are of the same two -/
theorem inc_1 {n : Nat} {r : List Nat} (hr : r.length + 1 = n) (h3 : 3 ≤ n) (hnd : r.Nodup) (h0 : ∀ x, x ∈ r → x ≠ 0) (a b : Nat) : incN n r a b ≤ 1 := by
  unfold incN
  refine smf_1 (fun i hi => by split <;> omega) fun i j hi hj e1 e2 => ?_
  have q1 : min (rowg r i) (rowg r ((i + 1) % n)) = a ∧ max (rowg r i) (rowg r ((i + 1) % n)) = b := by
    by_cases z : min (rowg r i) (rowg r ((i + 1) % n)) = a ∧ max (rowg r i) (rowg r ((i + 1) % n)) = b
    · exact z
    · rw [if_neg z] at e1; omega
  have q2 : min (rowg r j) (rowg r ((j + 1) % n)) = a ∧ max (rowg r j) (rowg r ((j + 1) % n)) = b := by
    by_cases z : min (rowg r j) (rowg r ((j + 1) % n)) = a ∧ max (rowg r j) (rowg r ((j + 1) % n)) = b
    · exact z
    · rw [if_neg z] at e2; omega
  have m1 : (i + 1) % n < n := Nat.mod_lt _ (by omega)
  have m2 : (j + 1) % n < n := Nat.mod_lt _ (by omega)
  by_cases z : rowg r i = rowg r j
  · exact row_in hr hnd h0 hi hj z
  · exfalso
    have z1 : rowg r i = rowg r ((j + 1) % n) := by omega
    have z2 : rowg r ((i + 1) % n) = rowg r j := by omega
    have y1 := row_in hr hnd h0 hi m2 z1
    have y2 := row_in hr hnd h0 m1 hj z2
    have w1 : (j + 1) % n = if j + 1 = n then 0 else j + 1 := by
      split
      · rename_i q; rw [q, Nat.mod_self]
      · exact Nat.mod_eq_of_lt (by omega)
    have w2 : (i + 1) % n = if i + 1 = n then 0 else i + 1 := by
      split
      · rename_i q; rw [q, Nat.mod_self]
      · exact Nat.mod_eq_of_lt (by omega)
    rw [w1] at y1
    rw [w2] at y2
    split at y1 <;> split at y2 <;> omega
theorem adj_inc {n : Nat} {r : List Nat} {a b : Nat} (hab : a < b) : adjp n r a b = decide (1 ≤ incN n r a b) := by
  have hc : ∀ i, cyA n r a b i = true ↔ (min (rowg r i) (rowg r ((i + 1) % n)) = a ∧ max (rowg r i) (rowg r ((i + 1) % n)) = b) := fun i => by
    unfold cyA
    simp only [Bool.or_eq_true, Bool.and_eq_true, decide_eq_true_eq]
    omega
  have h1 : adjp n r a b = true ↔ 1 ≤ incN n r a b := by
    unfold adjp incN
    rw [anyb_iff]
    constructor
    · rintro ⟨i, hi, h⟩
      have h2 := smf_le (m := n) (f := fun j => if j = i then 1 else 0) (g := fun i => if min (rowg r i) (rowg r ((i + 1) % n)) = a ∧ max (rowg r i) (rowg r ((i + 1) % n)) = b then 1 else 0) fun j hj => by
        by_cases z : j = i
        · rw [if_pos z, z, if_pos ((hc i).1 h)]; exact Nat.le_refl _
        · rw [if_neg z]; exact Nat.zero_le _
      rw [smf_one (x := i) fun j _ hne => if_neg hne, if_pos hi, if_pos rfl] at h2
      exact h2
    · intro h
      rcases Nat.lt_or_ge 0 (smf (fun i => if min (rowg r i) (rowg r ((i + 1) % n)) = a ∧ max (rowg r i) (rowg r ((i + 1) % n)) = b then 1 else 0) n) with _ | q
      · by_cases z : ∃ i, i < n ∧ cyA n r a b i = true
        · exact z
        · exfalso
          rw [smf_cg (g := fun _ => 0) fun i hi => if_neg fun y => z ⟨i, hi, (hc i).2 y⟩, smf_0] at h
          omega
      · omega
  cases q : adjp n r a b
  · rw [decide_eq_false fun w => by rw [h1.2 w] at q; cases q]
  · rw [decide_eq_true (h1.1 q)]
theorem adj_cm {n : Nat} {r : List Nat} (a b : Nat) : adjp n r a b = adjp n r b a := by
  unfold adjp
  congr 1
  funext i
  unfold cyA
  rw [Bool.or_comm]
/-- counted by holds, counted by twos -/
theorem dbl {n : Nat} {r : List Nat} (g : Nat → Nat → Nat) (h8 : ∀ i, i < n → rowg r i < 8 ∧ rowg r ((i + 1) % n) < 8) : smf (fun i => g (min (rowg r i) (rowg r ((i + 1) % n))) (max (rowg r i) (rowg r ((i + 1) % n)))) n = smf (fun a => smf (fun b => g a b * incN n r a b) 8) 8 := by
  have e1 : ∀ a b, g a b * incN n r a b = smf (fun i => if min (rowg r i) (rowg r ((i + 1) % n)) = a ∧ max (rowg r i) (rowg r ((i + 1) % n)) = b then g a b else 0) n := fun a b => by
    unfold incN
    generalize n = N
    have : ∀ P, g a b * smf (fun i => if min (rowg r i) (rowg r ((i + 1) % N)) = a ∧ max (rowg r i) (rowg r ((i + 1) % N)) = b then 1 else 0) P = smf (fun i => if min (rowg r i) (rowg r ((i + 1) % N)) = a ∧ max (rowg r i) (rowg r ((i + 1) % N)) = b then g a b else 0) P := fun P => by
      induction P with
      | zero => rfl
      | succ P ih =>
        show g a b * (smf _ P + (if _ then 1 else 0)) = smf _ P + (if _ then g a b else 0)
        rw [Nat.mul_add, ih]
        congr 1
        split
        · rw [Nat.mul_one]
        · rw [Nat.mul_zero]
    exact this N
  simp only [e1]
  have e2 : ∀ a, smf (fun b => smf (fun i => if min (rowg r i) (rowg r ((i + 1) % n)) = a ∧ max (rowg r i) (rowg r ((i + 1) % n)) = b then g a b else 0) n) 8 = smf (fun i => if min (rowg r i) (rowg r ((i + 1) % n)) = a then g a (max (rowg r i) (rowg r ((i + 1) % n))) else 0) n := fun a => by
    rw [smf_ex]
    refine smf_cg fun i hi => ?_
    have := h8 i hi
    rw [smf_one (x := max (rowg r i) (rowg r ((i + 1) % n))) fun b _ hne => if_neg fun z => hne z.2.symm, if_pos (by omega)]
    by_cases z : min (rowg r i) (rowg r ((i + 1) % n)) = a
    · rw [if_pos ⟨z, rfl⟩, if_pos z]
    · rw [if_neg fun y => z y.1, if_neg z]
  simp only [e2]
  rw [smf_ex]
  refine smf_cg fun i hi => ?_
  have := h8 i hi
  rw [smf_one (x := min (rowg r i) (rowg r ((i + 1) % n))) fun a _ hne => if_neg fun z => hne z.symm, if_pos (by omega), if_pos rfl]
end
