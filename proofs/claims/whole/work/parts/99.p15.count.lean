section
/-! How many rows cost so much. -/
def smf (f : Nat → Nat) : Nat → Nat
  | 0 => 0
  | m + 1 => smf f m + f m
theorem smf_cg {f g : Nat → Nat} : ∀ {m : Nat}, (∀ p, p < m → f p = g p) → smf f m = smf g m
  | 0, _ => rfl
  | m + 1, h => by
    show smf f m + f m = smf g m + g m
    rw [smf_cg (m := m) fun p hp => h p (by omega), h m (by omega)]
theorem smf_0 : ∀ m, smf (fun _ => 0) m = 0
  | 0 => rfl
  | m + 1 => by show smf (fun _ => 0) m + 0 = 0; rw [smf_0 m]
theorem smf_one {f : Nat → Nat} {x : Nat} : ∀ {m : Nat}, (∀ p, p < m → p ≠ x → f p = 0) → smf f m = if x < m then f x else 0
  | 0, _ => by rw [if_neg (Nat.not_lt_zero _)]; rfl
  | m + 1, h => by
    show smf f m + f m = _
    rw [smf_one (m := m) fun p hp => h p (by omega)]
    by_cases z : x = m
    · rw [z, if_neg (Nat.lt_irrefl _), if_pos (by omega)]; omega
    · rw [h m (by omega) (fun q => z q.symm)]
      by_cases y : x < m
      · rw [if_pos y, if_pos (by omega)]; rfl
      · rw [if_neg y, if_neg (by omega)]
theorem cnt_cat {α : Type} {P : α → Bool} {f : Nat → List α} : ∀ {m : Nat}, (cat f m).countP P = smf (fun p => (f p).countP P) m
  | 0 => rfl
  | m + 1 => by
    show (cat f m ++ f m).countP P = smf (fun p => (f p).countP P) m + (f m).countP P
    rw [List.countP_append, cnt_cat]
variable {c : Nat → Nat → Nat} {n : Nat}
/-- how many of the best -/
def Wc (c : Nat → Nat → Nat) (n k U l : Nat) : Nat := (rws n k U).countP fun r => decide (pth false c 0 l r = Hc false c n k U l)
theorem rop_f (a b : Nat) : rop false a b = min 1000000 (a + b) := rfl
theorem cnt_block {k U l p B : Nat} (hB : B < 1000000) (hl : B ≤ rop false (c l p) (Hc false c n k (U ||| 2 ^ p) p)) : (((rws n k (U ||| 2 ^ p)).map (p :: ·)).countP fun r => decide (pth false c 0 l r = B)) = if rop false (c l p) (Hc false c n k (U ||| 2 ^ p) p) = B then Wc c n k (U ||| 2 ^ p) p else 0 := by
  rw [List.countP_map]
  by_cases z : rop false (c l p) (Hc false c n k (U ||| 2 ^ p) p) = B
  · rw [if_pos z]
    unfold Wc
    refine List.countP_congr fun r hr => ?_
    have h1 := Hc_le (w := false) (c := c) (l := p) hr
    show decide (rop false (c l p) (pth false c 0 p r) = B) = true ↔ decide (pth false c 0 p r = Hc false c n k (U ||| 2 ^ p) p) = true
    rw [decide_eq_true_eq, decide_eq_true_eq]
    rw [rop_f] at z ⊢
    constructor
    · intro q; omega
    · intro q; rw [q]; exact z
  · rw [if_neg z, List.countP_eq_zero]
    intro r hr
    have h1 := Hc_le (w := false) (c := c) (l := p) hr
    show ¬ decide (rop false (c l p) (pth false c 0 p r) = B) = true
    rw [decide_eq_true_eq]
    rw [rop_f] at z hl ⊢
    omega
theorem Wc_s {k U l : Nat} (hlt : Hc false c n (k + 1) U l < 1000000) : Wc c n (k + 1) U l = smf (fun p => if free U p = true ∧ rop false (c l p) (Hc false c n k (U ||| 2 ^ p) p) = Hc false c n (k + 1) U l then Wc c n k (U ||| 2 ^ p) p else 0) n := by
  show (cat _ n).countP _ = _
  rw [cnt_cat]
  refine smf_cg fun p hp => ?_
  by_cases hf : free U p = true
  · have hle : Hc false c n (k + 1) U l ≤ rop false (c l p) (Hc false c n k (U ||| 2 ^ p) p) := by
      have h1 := mn_le (f := fun p => if free U p = true then rop false (c l p) (Hc false c n k (U ||| 2 ^ p) p) else 1000000) hp
      simp only [if_pos hf] at h1
      exact h1
    rw [if_pos hf, cnt_block hlt hle]
    by_cases z : rop false (c l p) (Hc false c n k (U ||| 2 ^ p) p) = Hc false c n (k + 1) U l
    · rw [if_pos z, if_pos ⟨hf, z⟩]
    · rw [if_neg z, if_neg fun q => z q.2]
  · rw [if_neg hf, if_neg fun q => hf q.1]
    rfl
/-- gone backwards they are the same rows -/
theorem cnt_mem {n : Nat} : ∀ {k U : Nat} {r : List Nat}, (rws n k U).count r = if r ∈ rws n k U then 1 else 0
  | 0, U, r => by
    show [[]].count r = if r ∈ [[]] then 1 else 0
    by_cases z : r = []
    · subst z; rfl
    · rw [if_neg (by rw [List.mem_singleton]; exact z)]
      rw [List.count_eq_zero]
      rw [List.mem_singleton]
      exact z
  | k + 1, U, r => by
    have e : (rws n (k + 1) U).count r = smf (fun p => (if free U p = true then (rws n k (U ||| 2 ^ p)).map (p :: ·) else []).count r) n := by
      show (cat _ n).countP _ = _
      rw [cnt_cat]
      rfl
    rw [e]
    match r with
    | [] =>
      rw [if_neg fun h => by have := (mem_rws.mp h).1; cases this]
      rw [smf_cg (g := fun _ => 0) fun p _ => ?_]
      · exact smf_0 n
      · split
        · rw [List.count_eq_zero]
          intro h
          obtain ⟨q, -, h2⟩ := List.mem_map.mp h
          cases h2
        · rfl
    | x :: q =>
      have blk : ∀ p, ((rws n k (U ||| 2 ^ p)).map (p :: ·)).count (x :: q) = if p = x then (rws n k (U ||| 2 ^ p)).count q else 0 := fun p => by
        by_cases z : p = x
        · subst z
          rw [if_pos rfl]
          show ((rws n k (U ||| 2 ^ p)).map (p :: ·)).countP (· == p :: q) = (rws n k (U ||| 2 ^ p)).countP (· == q)
          rw [List.countP_map]
          refine List.countP_congr fun r hr => ?_
          show (p :: r == p :: q) = true ↔ (r == q) = true
          rw [beq_iff_eq, beq_iff_eq]
          exact ⟨fun h => by cases h; rfl, fun h => by rw [h]⟩
        · rw [if_neg z, List.count_eq_zero]
          intro h
          obtain ⟨r, -, h2⟩ := List.mem_map.mp h
          exact z (List.cons.inj h2).1
      rw [smf_one (x := x) fun p hp hne => ?_]
      · by_cases hxn : x < n
        · rw [if_pos hxn]
          by_cases hf : free U x = true
          · rw [if_pos hf, blk, if_pos rfl, cnt_mem]
            have : q ∈ rws n k (U ||| 2 ^ x) ↔ x :: q ∈ rws n (k + 1) U := by
              constructor
              · intro h
                exact mem_cat.mpr ⟨x, hxn, by rw [if_pos hf]; exact List.mem_map.mpr ⟨q, h, rfl⟩⟩
              · intro h
                obtain ⟨p, hp, hr⟩ := mem_cat.mp h
                split at hr
                · obtain ⟨r, hr1, hr2⟩ := List.mem_map.mp hr
                  cases hr2
                  exact hr1
                · cases hr
            by_cases y : q ∈ rws n k (U ||| 2 ^ x)
            · rw [if_pos y, if_pos (this.mp y)]
            · rw [if_neg y, if_neg fun h => y (this.mpr h)]
          · rw [if_neg hf, if_neg fun h => hf ((mem_rws.mp h).2.2 x List.mem_cons_self).2]
            rfl
        · rw [if_neg hxn, if_neg fun h => hxn ((mem_rws.mp h).2.2 x List.mem_cons_self).1]
      · split
        · rw [blk, if_neg hne]
        · rfl
theorem rev_perm {n k U : Nat} : ((rws n k U).map List.reverse).Perm (rws n k U) := by
  rw [List.perm_iff_count]
  intro a
  have e : ((rws n k U).map List.reverse).count a = (rws n k U).count a.reverse := by
    show ((rws n k U).map List.reverse).countP (· == a) = (rws n k U).countP (· == a.reverse)
    rw [List.countP_map]
    refine List.countP_congr fun r hr => ?_
    show (r.reverse == a) = true ↔ (r == a.reverse) = true
    rw [beq_iff_eq, beq_iff_eq]
    exact ⟨fun h => by rw [← h, List.reverse_reverse], fun h => by rw [h, List.reverse_reverse]⟩
  rw [e, cnt_mem, cnt_mem]
  by_cases z : a ∈ rws n k U
  · rw [if_pos (rev_mem z), if_pos z]
  · rw [if_neg fun h => z (by have := rev_mem h; rw [List.reverse_reverse] at this; exact this), if_neg z]
theorem cnt_rev {n k U : Nat} {P : List Nat → Bool} : (rws n k U).countP P = (rws n k U).countP fun r => P r.reverse := by
  rw [← rev_perm.countP_eq P, List.countP_map]
  rfl
/-- half of them go the one way -/
theorem cnt_half {n k U : Nat} {P : List Nat → Bool} (hk : 2 ≤ k) (hP : ∀ r, r ∈ rws n k U → P r.reverse = P r) : (rws n k U).countP P = 2 * (rws n k U).countP fun r => ori r && P r := by
  have e1 : (rws n k U).countP P = (rws n k U).countP (fun r => ori r && P r) + (rws n k U).countP (fun r => !ori r && P r) := by
    generalize rws n k U = l
    induction l with
    | nil => rfl
    | cons x l ih =>
      rw [List.countP_cons, List.countP_cons, List.countP_cons, ih]
      cases ori x <;> cases P x <;> simp <;> omega
  have e2 : (rws n k U).countP (fun r => !ori r && P r) = (rws n k U).countP fun r => ori r && P r := by
    rw [cnt_rev]
    refine List.countP_congr fun r hr => ?_
    obtain ⟨m1, m2, -⟩ := mem_rws.mp hr
    rw [ori_rev m2 (by omega), hP r hr, Bool.not_not]
  omega
end
