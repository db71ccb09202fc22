section
/-! Rings as rows: what they cost, the least, the first of the best. -/
def rI : Nat := 1000000
def rop (w : Bool) (a b : Nat) : Nat := if w = true then max a b else min 1000000 (a + b)
theorem rop_as (w : Bool) (a b c : Nat) : rop w (rop w a b) c = rop w a (rop w b c) := by
  unfold rop
  cases w
  · simp only [Bool.false_eq_true, if_false]; omega
  · simp only [if_true]; omega
theorem rop_cm (w : Bool) (a b : Nat) : rop w a b = rop w b a := by
  unfold rop
  cases w
  · simp only [Bool.false_eq_true, if_false]; omega
  · simp only [if_true]; omega
theorem rop_mo {w : Bool} {a b c : Nat} (h : b ≤ c) : rop w a b ≤ rop w a c := by
  unfold rop
  cases w
  · simp only [Bool.false_eq_true, if_false]; omega
  · simp only [if_true]; omega
theorem rop_ge {w : Bool} {a b : Nat} (h : a ≤ 1000000) : a ≤ rop w a b := by
  unfold rop
  cases w
  · simp only [Bool.false_eq_true, if_false]; omega
  · simp only [if_true]; omega
theorem rop_ge2 {w : Bool} {a b : Nat} (h : b ≤ 1000000) : b ≤ rop w a b := by rw [rop_cm]; exact rop_ge h
theorem rop_le {w : Bool} {a b : Nat} (h : a ≤ 1000000) (g : b ≤ 1000000) : rop w a b ≤ 1000000 := by
  unfold rop
  cases w
  · simp only [Bool.false_eq_true, if_false]; omega
  · simp only [if_true]; omega
theorem rop_0 {w : Bool} {a : Nat} (h : a ≤ 1000000) : rop w 0 a = a := by
  unfold rop
  cases w
  · simp only [Bool.false_eq_true, if_false]; omega
  · simp only [if_true]; omega
theorem rop_I {w : Bool} {a : Nat} (h : a ≤ 1000000) : rop w 1000000 a = 1000000 := by
  unfold rop
  cases w
  · simp only [Bool.false_eq_true, if_false]; omega
  · simp only [if_true]; omega
/-- the least of some -/
def mn (f : Nat → Nat) : Nat → Nat
  | 0 => 1000000
  | m + 1 => min (mn f m) (f m)
theorem mn_le {f : Nat → Nat} {p : Nat} : ∀ {m : Nat}, p < m → mn f m ≤ f p
  | 0, h => by omega
  | m + 1, h => by
    show min (mn f m) (f m) ≤ _
    by_cases z : p = m
    · rw [z]; omega
    · have := mn_le (f := f) (p := p) (m := m) (by omega)
      omega
theorem mn_I (f : Nat → Nat) : ∀ m, mn f m ≤ 1000000
  | 0 => Nat.le_refl _
  | m + 1 => by
    have := mn_I f m
    show min (mn f m) (f m) ≤ _
    omega
theorem mn_ex {f : Nat → Nat} : ∀ {m : Nat}, mn f m < 1000000 → ∃ p, p < m ∧ f p = mn f m
  | 0, h => absurd h (Nat.lt_irrefl _)
  | m + 1, h => by
    have h : min (mn f m) (f m) < 1000000 := h
    show ∃ p, p < m + 1 ∧ f p = min (mn f m) (f m)
    by_cases z : mn f m ≤ f m
    · obtain ⟨p, h1, h2⟩ := mn_ex (f := f) (m := m) (by omega)
      exact ⟨p, by omega, by omega⟩
    · exact ⟨m, by omega, by omega⟩
theorem mn_cg {f g : Nat → Nat} : ∀ {m : Nat}, (∀ p, p < m → f p = g p) → mn f m = mn g m
  | 0, _ => rfl
  | m + 1, h => by
    show min (mn f m) (f m) = min (mn g m) (g m)
    rw [mn_cg (m := m) fun p hp => h p (by omega), h m (by omega)]
def cat {α : Type} (f : Nat → List α) : Nat → List α
  | 0 => []
  | m + 1 => cat f m ++ f m
theorem mem_cat {α : Type} {f : Nat → List α} {x : α} : ∀ {m : Nat}, x ∈ cat f m ↔ ∃ p, p < m ∧ x ∈ f p
  | 0 => ⟨(fun h => by cases h), fun ⟨p, h, _⟩ => absurd h (Nat.not_lt_zero _)⟩
  | m + 1 => by
    show x ∈ cat f m ++ f m ↔ _
    rw [List.mem_append, mem_cat]
    constructor
    · rintro (⟨p, h1, h2⟩ | h)
      · exact ⟨p, by omega, h2⟩
      · exact ⟨m, by omega, h⟩
    · rintro ⟨p, h1, h2⟩
      by_cases z : p = m
      · exact Or.inr (z ▸ h2)
      · exact Or.inl ⟨p, by omega, h2⟩
/-- who may be next -/
def free (U p : Nat) : Bool := decide (p ≠ 0) && !U.testBit p
def rws (n : Nat) : Nat → Nat → List (List Nat)
  | 0, _ => [[]]
  | k + 1, U => cat (fun p => if free U p = true then (rws n k (U ||| 2 ^ p)).map (p :: ·) else []) n
theorem bit_or {U p x : Nat} : (U ||| 2 ^ p).testBit x = (U.testBit x || decide (x = p)) := by
  rw [Nat.testBit_or, Nat.testBit_two_pow]
  congr 1
  exact decide_eq_decide.mpr ⟨fun h => h.symm, fun h => h.symm⟩
theorem free_or {U p x : Nat} : free (U ||| 2 ^ p) x = (free U x && decide (x ≠ p)) := by
  unfold free
  rw [bit_or]
  by_cases z : x = p <;> simp [z]
theorem mem_rws {n : Nat} : ∀ {k U : Nat} {r : List Nat}, r ∈ rws n k U ↔ r.length = k ∧ r.Nodup ∧ ∀ x, x ∈ r → x < n ∧ free U x = true
  | 0, U, r => by
    show r ∈ [[]] ↔ _
    rw [List.mem_singleton]
    constructor
    · rintro rfl
      exact ⟨rfl, List.nodup_nil, fun x hx => by cases hx⟩
    · rintro ⟨h, -⟩
      exact List.length_eq_zero_iff.mp h
  | k + 1, U, r => by
    show r ∈ cat _ n ↔ _
    rw [mem_cat]
    constructor
    · rintro ⟨p, hp, hr⟩
      split at hr
      · rename_i hf
        rw [List.mem_map] at hr
        obtain ⟨q, hq, rfl⟩ := hr
        obtain ⟨h1, h2, h3⟩ := mem_rws.mp hq
        refine ⟨by rw [List.length_cons, h1], ?_, ?_⟩
        · rw [List.nodup_cons]
          refine ⟨fun z => ?_, h2⟩
          have := (h3 p z).2
          rw [free_or] at this
          simp at this
        · intro x hx
          rcases List.mem_cons.mp hx with rfl | hx
          · exact ⟨hp, hf⟩
          · have := h3 x hx
            rw [free_or] at this
            exact ⟨this.1, by have := this.2; simp only [Bool.and_eq_true] at this; exact this.1⟩
      · cases hr
    · rintro ⟨h1, h2, h3⟩
      match r, h1, h2, h3 with
      | p :: q, h1, h2, h3 =>
        have hp := h3 p List.mem_cons_self
        rw [List.nodup_cons] at h2
        refine ⟨p, hp.1, ?_⟩
        rw [if_pos hp.2, List.mem_map]
        refine ⟨q, mem_rws.mpr ⟨by rw [List.length_cons] at h1; omega, h2.2, fun x hx => ⟨(h3 x (List.mem_cons_of_mem _ hx)).1, ?_⟩⟩, rfl⟩
        rw [free_or, (h3 x (List.mem_cons_of_mem _ hx)).2]
        simp only [Bool.true_and, decide_eq_true_eq]
        exact fun z => h2.1 (z ▸ hx)
/-- a path, a row's whole way home -/
def pth (w : Bool) (c : Nat → Nat → Nat) (b : Nat) : Nat → List Nat → Nat
  | a, [] => c a b
  | a, p :: r => rop w (c a p) (pth w c b p r)
theorem pth_ap {w : Bool} {c : Nat → Nat → Nat} {b q : Nat} : ∀ {r : List Nat} {a : Nat}, pth w c b a (r ++ [q]) = rop w (pth w c q a r) (c q b)
  | [], a => rfl
  | p :: r, a => by
    show rop w (c a p) (pth w c b p (r ++ [q])) = rop w (rop w (c a p) (pth w c q p r)) (c q b)
    rw [pth_ap, rop_as]
theorem pth_rev {w : Bool} {c : Nat → Nat → Nat} (hc : ∀ a b, c a b = c b a) : ∀ {r : List Nat} {a b : Nat}, pth w c b a r.reverse = pth w c a b r
  | [], a, b => hc a b
  | p :: r, a, b => by
    rw [List.reverse_cons, pth_ap, pth_rev hc, rop_cm, hc p b]
    rfl
theorem pth_I {w : Bool} {c : Nat → Nat → Nat} (hc : ∀ a b, c a b ≤ 1000000) {b : Nat} : ∀ {r : List Nat} {a : Nat}, pth w c b a r ≤ 1000000
  | [], a => hc a b
  | p :: r, a => rop_le (hc a p) (pth_I hc)
/-- the least way home -/
def Hc (w : Bool) (c : Nat → Nat → Nat) (n : Nat) : Nat → Nat → Nat → Nat
  | 0, _, l => c l 0
  | k + 1, U, l => mn (fun p => if free U p = true then rop w (c l p) (Hc w c n k (U ||| 2 ^ p) p) else 1000000) n
variable {w : Bool} {c : Nat → Nat → Nat} {n : Nat}
theorem Hc_I (hc : ∀ a b, c a b ≤ 1000000) : ∀ k U l, Hc w c n k U l ≤ 1000000
  | 0, _, l => hc l 0
  | k + 1, U, l => mn_I _ _
theorem Hc_le : ∀ {k U l : Nat} {r : List Nat}, r ∈ rws n k U → Hc w c n k U l ≤ pth w c 0 l r
  | 0, U, l, r, h => by
    have : r = [] := List.mem_singleton.mp h
    subst this
    exact Nat.le_refl _
  | k + 1, U, l, r, h => by
    obtain ⟨p, hp, hr⟩ := mem_cat.mp h
    split at hr
    · rename_i hf
      obtain ⟨q, hq, rfl⟩ := List.mem_map.mp hr
      have h1 := mn_le (f := fun p => if free U p = true then rop w (c l p) (Hc w c n k (U ||| 2 ^ p) p) else 1000000) hp
      simp only [if_pos hf] at h1
      exact Nat.le_trans h1 (rop_mo (Hc_le hq))
    · cases hr
theorem Hc_ex (hc : ∀ a b, c a b ≤ 1000000) : ∀ {k U l : Nat}, Hc w c n k U l < 1000000 → ∃ r, r ∈ rws n k U ∧ pth w c 0 l r = Hc w c n k U l
  | 0, U, l, h => ⟨[], List.mem_singleton.mpr rfl, rfl⟩
  | k + 1, U, l, h => by
    obtain ⟨p, hp, e⟩ := mn_ex h
    have e : (if free U p = true then rop w (c l p) (Hc w c n k (U ||| 2 ^ p) p) else 1000000) = Hc w c n (k + 1) U l := e
    by_cases hf : free U p = true
    · rw [if_pos hf] at e
      have hI := Hc_I (w := w) (n := n) hc k (U ||| 2 ^ p) p
      have : Hc w c n k (U ||| 2 ^ p) p < 1000000 := by
        rcases Nat.lt_or_ge (Hc w c n k (U ||| 2 ^ p) p) 1000000 with z | z
        · exact z
        · have z2 : Hc w c n k (U ||| 2 ^ p) p = 1000000 := by omega
          rw [z2, rop_cm, rop_I (hc l p)] at e
          omega
      obtain ⟨r, h1, h2⟩ := Hc_ex hc this
      refine ⟨p :: r, mem_cat.mpr ⟨p, hp, ?_⟩, ?_⟩
      · rw [if_pos hf]
        exact List.mem_map.mpr ⟨r, h1, rfl⟩
      · show rop w (c l p) (pth w c 0 p r) = _
        rw [h2, e]
    · rw [if_neg hf] at e
      omega
/-- the first of the rows that cost no more than so much, by steps -/
def Grd (w : Bool) (c : Nat → Nat → Nat) (n B : Nat) : Nat → Nat → Nat → Nat → List Nat → Prop
  | 0, _, _, _, g => g = []
  | k + 1, U, l, s, g => ∃ p q, g = p :: q ∧ (p < n ∧ free U p = true ∧ rop w (rop w s (c l p)) (Hc w c n k (U ||| 2 ^ p) p) ≤ B) ∧ (∀ x, x < p → free U x = true → B < rop w (rop w s (c l x)) (Hc w c n k (U ||| 2 ^ x) x)) ∧ Grd w c n B k (U ||| 2 ^ p) p (rop w s (c l p)) q
theorem least_of {P : Nat → Prop} [DecidablePred P] : ∀ {m : Nat}, (∃ p, p < m ∧ P p) → ∃ p, p < m ∧ P p ∧ ∀ x, x < p → ¬ P x
  | 0, ⟨p, h, _⟩ => absurd h (Nat.not_lt_zero _)
  | m + 1, ⟨p, h, hp⟩ => by
    by_cases z : ∃ p, p < m ∧ P p
    · obtain ⟨p, h1, h2, h3⟩ := least_of z
      exact ⟨p, by omega, h2, h3⟩
    · have : p = m := by
        by_cases y : p = m
        · exact y
        · exact absurd ⟨p, by omega, hp⟩ z
      exact ⟨p, h, hp, fun x hx hP => z ⟨x, by omega, hP⟩⟩
theorem Grd_ex {B : Nat} (hc : ∀ a b, c a b ≤ 1000000) (hB : B < 1000000) : ∀ {k U l s : Nat}, s ≤ 1000000 → rop w s (Hc w c n k U l) ≤ B → ∃ g, Grd w c n B k U l s g
  | 0, U, l, s, hs, h => ⟨[], rfl⟩
  | k + 1, U, l, s, hs, h => by
    have hI := Hc_I (w := w) (n := n) hc (k + 1) U l
    have hlt : Hc w c n (k + 1) U l < 1000000 := Nat.lt_of_le_of_lt (Nat.le_trans (rop_ge2 hI) h) hB
    obtain ⟨p, hp, e⟩ := mn_ex hlt
    have e : (if free U p = true then rop w (c l p) (Hc w c n k (U ||| 2 ^ p) p) else 1000000) = Hc w c n (k + 1) U l := e
    have hf : free U p = true := by
      by_cases z : free U p = true
      · exact z
      · rw [if_neg z] at e; omega
    rw [if_pos hf] at e
    obtain ⟨p, h1, h2, h3⟩ := least_of (P := fun p => free U p = true ∧ rop w (rop w s (c l p)) (Hc w c n k (U ||| 2 ^ p) p) ≤ B) ⟨p, hp, hf, by rw [rop_as, e]; exact h⟩
    obtain ⟨q, hq⟩ := Grd_ex hc hB (rop_le hs (hc l p)) h2.2
    exact ⟨p :: q, p, q, rfl, ⟨h1, h2⟩, fun x hx hf => Nat.lt_of_not_le fun z => h3 x hx ⟨hf, z⟩, hq⟩
theorem find_cat {α : Type} {P : α → Bool} {f : Nat → List α} {x : α} {p : Nat} : ∀ {m : Nat}, p < m → (f p).find? P = some x → (∀ q, q < p → (f q).find? P = none) → (cat f m).find? P = some x
  | 0, h, _, _ => absurd h (Nat.not_lt_zero _)
  | m + 1, h, h1, h2 => by
    show (cat f m ++ f m).find? P = _
    rw [List.find?_append]
    by_cases z : p = m
    · have : (cat f m).find? P = none := by
        rw [List.find?_eq_none]
        intro y hy
        obtain ⟨q, hq, hy⟩ := mem_cat.mp hy
        exact List.find?_eq_none.mp (h2 q (by omega)) y hy
      rw [this, ← z, h1]
      rfl
    · rw [find_cat (m := m) (by omega) h1 h2]
      rfl
theorem Grd_find {B : Nat} : ∀ {k U l s : Nat} {g : List Nat}, rop w s (Hc w c n k U l) ≤ B → Grd w c n B k U l s g → (rws n k U).find? (fun r => decide (rop w s (pth w c 0 l r) ≤ B)) = some g
  | 0, U, l, s, g, h, hg => by
    have : g = [] := hg
    subst this
    have h : rop w s (c l 0) ≤ B := h
    show [[]].find? _ = _
    rw [List.find?_cons, show decide (rop w s (pth w c 0 l []) ≤ B) = true from decide_eq_true h]
  | k + 1, U, l, s, g, h, hg => by
    obtain ⟨p, q, rfl, ⟨h1, h2, h3⟩, h4, h5⟩ := hg
    refine find_cat h1 ?_ fun x hx => ?_
    · rw [if_pos h2, List.find?_map]
      have := Grd_find h3 h5
      have e : ((fun r => decide (rop w s (pth w c 0 l r) ≤ B)) ∘ fun x => p :: x) = fun r => decide (rop w (rop w s (c l p)) (pth w c 0 p r) ≤ B) := by
        funext r
        show decide (rop w s (rop w (c l p) (pth w c 0 p r)) ≤ B) = _
        rw [rop_as]
      rw [e, this]
      rfl
    · by_cases hf : free U x = true
      · rw [if_pos hf, List.find?_eq_none]
        intro y hy
        obtain ⟨r, hr, rfl⟩ := List.mem_map.mp hy
        have a1 := h4 x hx hf
        have a2 : rop w (rop w s (c l x)) (Hc w c n k (U ||| 2 ^ x) x) ≤ rop w s (pth w c 0 l (x :: r)) := by
          rw [rop_as]
          exact rop_mo (rop_mo (Hc_le hr))
        simp only [decide_eq_true_eq]
        omega
      · rw [if_neg hf]
        rfl
end
