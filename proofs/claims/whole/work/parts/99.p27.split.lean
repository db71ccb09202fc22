section
/-! Rows in which one comes right behind another, by who came before. -/
def foll (a b : Nat) : List Nat → Bool
  | [] => false
  | p :: r => if p = a then decide (r.head? = some b) else foll a b r
def mo (a : Nat) : Nat → List Nat → Nat
  | U, [] => U
  | U, p :: r => if p = a then U ||| 2 ^ a else mo a (U ||| 2 ^ p) r
theorem mo_bit {a x : Nat} : ∀ {r : List Nat} {U : Nat}, U.testBit x = true → (mo a U r).testBit x = true
  | [], _, h => h
  | p :: r, U, h => by
    show (if p = a then U ||| 2 ^ a else mo a (U ||| 2 ^ p) r).testBit x = true
    split
    · rw [bit_or, h]; rfl
    · exact mo_bit (r := r) (by rw [bit_or, h]; rfl)
theorem mo_lt {a n : Nat} : ∀ {r : List Nat} {U : Nat}, U < 2 ^ n → (∀ x, x ∈ r → x < n) → mo a U r < 2 ^ n
  | [], _, h, _ => h
  | p :: r, U, h, hr => by
    show (if p = a then U ||| 2 ^ a else mo a (U ||| 2 ^ p) r) < 2 ^ n
    have hp := hr p List.mem_cons_self
    split
    · rename_i e
      rw [← e]
      exact Nat.or_lt_two_pow h (Nat.pow_lt_pow_right (by decide) hp)
    · exact mo_lt (Nat.or_lt_two_pow h (Nat.pow_lt_pow_right (by decide) hp)) fun x hx => hr x (List.mem_cons_of_mem _ hx)
theorem sLs_app (f : List Nat → Nat) : ∀ (l l' : List (List Nat)), sLs f (l ++ l') = sLs f l + sLs f l'
  | [], l' => by show _ = 0 + _; rw [Nat.zero_add]; rfl
  | x :: l, l' => by
    show f x + sLs f (l ++ l') = f x + sLs f l + sLs f l'
    rw [sLs_app f l l', Nat.add_assoc]
theorem sLs_cat (f : List Nat → Nat) (g : Nat → List (List Nat)) : ∀ m, sLs f (cat g m) = smf (fun p => sLs f (g p)) m
  | 0 => rfl
  | m + 1 => by
    show sLs f (cat g m ++ g m) = smf (fun p => sLs f (g p)) m + sLs f (g m)
    rw [sLs_app, sLs_cat f g m]
theorem sLs_map (f : List Nat → Nat) (h : List Nat → List Nat) : ∀ (l : List (List Nat)), sLs f (l.map h) = sLs (fun x => f (h x)) l
  | [] => rfl
  | x :: l => by
    show f (h x) + sLs f (l.map h) = f (h x) + sLs _ l
    rw [sLs_map f h l]
theorem sLs_cg {f g : List Nat → Nat} : ∀ {l : List (List Nat)}, (∀ x, x ∈ l → f x = g x) → sLs f l = sLs g l
  | [], _ => rfl
  | x :: l, h => by
    show f x + sLs f l = g x + sLs g l
    rw [h x List.mem_cons_self, sLs_cg fun y hy => h y (List.mem_cons_of_mem _ hy)]
variable {n a b M : Nat}
theorem spl_cnt (ha0 : a ≠ 0) (ha : a < n) (hb0 : b ≠ 0) (hb : b < n) (hMa : M.testBit a = true) (hMb : M.testBit b = false) (hM : M < 2 ^ n) {k : Nat} : ∀ (j U V : Nat) (T : List Nat → Bool), (∀ x, x < n → free V x = (free U x && (M.testBit x && decide (x ≠ a)))) → cn (free V) n = j → U.testBit 0 = true → (∀ x, U.testBit x = true → M.testBit x = true) → U.testBit a = false → (rws n ((k + 2) + j) U).countP (fun r => T r && (foll a b r && decide (mo a U r = M))) = sLs (fun A => (rws n k (M ||| 2 ^ b)).countP fun B => T (A ++ a :: b :: B)) (rws n j V) := by
  intro j
  induction j with
  | zero =>
    intro U V T hV hj hU0 hUM hUa
    have hz := cn_0 hj
    have eM : U ||| 2 ^ a = M := Nat.eq_of_testBit_eq fun x => by
      rw [bit_or]
      by_cases xa : x = a
      · rw [xa, hMa]; simp
      · rw [decide_eq_false xa, Bool.or_false]
        by_cases x0 : x = 0
        · rw [x0, hU0, hUM 0 hU0]
        · by_cases xn : x < n
          · have := hz x xn
            rw [hV x xn, decide_eq_true xa, Bool.and_true] at this
            unfold free at this
            rw [decide_eq_true x0, Bool.true_and] at this
            cases q : U.testBit x
            · rw [q] at this
              exact this.symm
            · exact (hUM x q).symm
          · have e1 : M.testBit x = false := Nat.testBit_lt_two_pow (Nat.lt_of_lt_of_le hM (Nat.pow_le_pow_right (by decide) (by omega)))
            rw [e1]
            cases q : U.testBit x
            · rfl
            · rw [hUM x q] at e1; cases e1
    have hfa : free U a = true := by unfold free; rw [decide_eq_true ha0, hUa]; rfl
    have hfb : free (U ||| 2 ^ a) b = true := by unfold free; rw [eM, decide_eq_true hb0, hMb]; rfl
    show (cat (fun p => if free U p = true then (rws n (k + 1) (U ||| 2 ^ p)).map (p :: ·) else []) n).countP _ = (rws n k (M ||| 2 ^ b)).countP (fun B => T ([] ++ a :: b :: B)) + 0
    rw [cnt_cat, smf_one (x := a), if_pos ha, if_pos hfa, List.countP_map]
    · show (cat (fun p => if free (U ||| 2 ^ a) p = true then (rws n k (U ||| 2 ^ a ||| 2 ^ p)).map (p :: ·) else []) n).countP _ = _
      rw [cnt_cat, smf_one (x := b), if_pos hb, if_pos hfb, List.countP_map, eM]
      · show List.countP (fun B => T (a :: b :: B) && ((if a = a then decide ((b :: B).head? = some b) else _) && decide ((if a = a then U ||| 2 ^ a else _) = M))) (rws n k (M ||| 2 ^ b)) = List.countP (fun B => T (a :: b :: B)) (rws n k (M ||| 2 ^ b))
        refine List.countP_congr fun B _ => ?_
        simp [eM]
      · intro q _ hq
        split
        · rw [List.countP_map, List.countP_eq_zero]
          intro B _
          show ¬ (T (a :: q :: B) && ((if a = a then decide ((q :: B).head? = some b) else _) && _)) = true
          simp [hq]
        · rfl
    · intro p hp hpa
      split
      · rename_i hf
        rw [List.countP_map, List.countP_eq_zero]
        intro r _
        have hMp : M.testBit p = false := by
          have := hz p hp
          rw [hV p hp, hf, decide_eq_true hpa] at this
          simpa using this
        show ¬ (T (p :: r) && ((if p = a then _ else foll a b r) && decide ((if p = a then _ else mo a (U ||| 2 ^ p) r) = M))) = true
        rw [if_neg hpa, if_neg hpa]
        have hne : ¬ mo a (U ||| 2 ^ p) r = M := fun e => by
          have := mo_bit (a := a) (x := p) (r := r) (U := U ||| 2 ^ p) (by rw [bit_or]; simp)
          rw [e, hMp] at this
          cases this
        rw [decide_eq_false hne]
        simp
      · rfl
  | succ j ih =>
    intro U V T hV hj hU0 hUM hUa
    show (cat (fun p => if free U p = true then (rws n ((k + 2) + j) (U ||| 2 ^ p)).map (p :: ·) else []) n).countP _ = sLs _ (cat (fun p => if free V p = true then (rws n j (V ||| 2 ^ p)).map (p :: ·) else []) n)
    rw [cnt_cat, sLs_cat]
    have neM : ¬ U ||| 2 ^ a = M := fun e => by
      have : cn (free V) n = 0 := by
        rw [cn_cg (g := fun _ => false) fun x hx => ?_]
        · have : ∀ m, cn (fun _ => false) m = 0 := fun m => by
            induction m with
            | zero => rfl
            | succ m ih => show cn (fun _ => false) m + _ = 0; rw [ih]; rfl
          exact this n
        · rw [hV x hx, ← e, bit_or]
          unfold free
          cases U.testBit x <;> by_cases xa : x = a <;> simp [xa]
      omega
    refine smf_cg fun p hp => ?_
    by_cases hfV : free V p = true
    · have h1 := hV p hp
      rw [hfV] at h1
      have h1 := h1.symm
      rw [Bool.and_eq_true, Bool.and_eq_true, decide_eq_true_eq] at h1
      obtain ⟨hf, hMp, hpa⟩ := h1
      rw [if_pos hfV, if_pos hf, List.countP_map, sLs_map]
      have := ih (U ||| 2 ^ p) (V ||| 2 ^ p) (fun r => T (p :: r)) (fun x hx => by rw [free_or, free_or, hV x hx]; cases free U x <;> cases M.testBit x <;> simp [Bool.and_comm]) (by
        have := cn_del hfV hp
        have e : cn (free (V ||| 2 ^ p)) n = cn (fun y => free V y && decide (y ≠ p)) n := cn_cg fun y _ => free_or
        omega) (by rw [bit_or, hU0]; rfl) (fun x hx => by
          rw [bit_or, Bool.or_eq_true, decide_eq_true_eq] at hx
          rcases hx with hx | hx
          · exact hUM x hx
          · rw [hx]; exact hMp) (by rw [bit_or, hUa, decide_eq_false fun e => hpa e.symm]; rfl)
      rw [show (sLs (fun x => (rws n k (M ||| 2 ^ b)).countP fun B => T (p :: x ++ a :: b :: B)) (rws n j (V ||| 2 ^ p))) = _ from this.symm]
      refine List.countP_congr fun r _ => ?_
      show (T (p :: r) && ((if p = a then _ else foll a b r) && decide ((if p = a then _ else mo a (U ||| 2 ^ p) r) = M))) = true ↔ _
      rw [if_neg hpa, if_neg hpa]
    · rw [if_neg hfV]
      show _ = 0
      split
      · rename_i hf
        rw [List.countP_map, List.countP_eq_zero]
        intro r _
        show ¬ (T (p :: r) && ((if p = a then _ else foll a b r) && decide ((if p = a then U ||| 2 ^ a else mo a (U ||| 2 ^ p) r) = M))) = true
        by_cases hpa : p = a
        · rw [if_pos hpa, if_pos hpa, decide_eq_false neM]
          simp
        · rw [if_neg hpa, if_neg hpa]
          have hMp : M.testBit p = false := by
            have := hV p hp
            rw [hf, decide_eq_true hpa] at this
            cases q : M.testBit p
            · rfl
            · rw [q] at this; exact absurd this hfV
          have hne : ¬ mo a (U ||| 2 ^ p) r = M := fun e => by
            have := mo_bit (a := a) (x := p) (r := r) (U := U ||| 2 ^ p) (by rw [bit_or]; simp)
            rw [e, hMp] at this
            cases this
          rw [decide_eq_false hne]
          simp
      · rfl
end
