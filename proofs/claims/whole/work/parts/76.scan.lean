section
/-! A text in tokens. -/
def spc (b : Nat) : Bool := decide (b = 32)
def sml (b : Nat) : Bool := decide (97 ≤ b ∧ b ≤ 122)
def dgt (b : Nat) : Bool := decide (48 ≤ b ∧ b ≤ 57)
def adv (q : Nat → Bool) (T : Nat → Nat) (n : Nat) : Nat → Nat → Nat
  | 0, p => p
  | m + 1, p => if p < n ∧ q (T p) = true then adv q T n m (p + 1) else p
def av (q : Nat → Bool) (T : Nat → Nat) (n p : Nat) : Nat := adv q T n (n - p) p
theorem av_go {q : Nat → Bool} {T : Nat → Nat} {n p : Nat} (h : p < n) (hq : q (T p) = true) : av q T n p = av q T n (p + 1) := by
  unfold av
  rw [show n - p = (n - (p + 1)) + 1 by omega]
  show (if p < n ∧ q (T p) = true then _ else p) = _
  rw [if_pos ⟨h, hq⟩]
theorem av_st {q : Nat → Bool} {T : Nat → Nat} {n p : Nat} (h : ¬ (p < n ∧ q (T p) = true)) : av q T n p = p := by
  unfold av
  cases n - p with
  | zero => rfl
  | succ m =>
    unfold adv
    rw [if_neg h]
theorem av_p {q : Nat → Bool} {T : Nat → Nat} {n : Nat} : ∀ d p, n - p ≤ d → p ≤ av q T n p ∧ (p ≤ n → av q T n p ≤ n) ∧ (av q T n p < n → q (T (av q T n p)) = false) ∧ ∀ k, p ≤ k → k < av q T n p → k < n ∧ q (T k) = true
  | 0, p, h => by
    rw [av_st (by omega)]
    exact ⟨Nat.le_refl _, fun z => z, fun z => by omega, fun k z1 z2 => by omega⟩
  | d + 1, p, h => by
    by_cases c : p < n ∧ q (T p) = true
    · obtain ⟨h1, h2, h3, h4⟩ := av_p (q := q) (T := T) (n := n) d (p + 1) (by omega)
      rw [av_go c.1 c.2]
      refine ⟨by omega, fun z => h2 (by omega), h3, fun k z1 z2 => ?_⟩
      by_cases y : k = p
      · rw [y]; exact c
      · exact h4 k (by omega) z2
    · rw [av_st c]
      refine ⟨Nat.le_refl _, fun z => z, fun z => ?_, fun k z1 z2 => by omega⟩
      cases y : q (T p) with
      | false => rfl
      | true => exact absurd ⟨z, y⟩ c
theorem av_ge (q : Nat → Bool) (T : Nat → Nat) (n p : Nat) : p ≤ av q T n p := (av_p _ p (Nat.le_refl _)).1
theorem av_le {q : Nat → Bool} {T : Nat → Nat} {n p : Nat} (h : p ≤ n) : av q T n p ≤ n := (av_p _ p (Nat.le_refl _)).2.1 h
theorem av_no {q : Nat → Bool} {T : Nat → Nat} {n p : Nat} (h : av q T n p < n) : q (T (av q T n p)) = false := (av_p _ p (Nat.le_refl _)).2.2.1 h
theorem av_in {q : Nat → Bool} {T : Nat → Nat} {n p k : Nat} (h1 : p ≤ k) (h2 : k < av q T n p) : k < n ∧ q (T k) = true := (av_p _ p (Nat.le_refl _)).2.2.2 k h1 h2
def ten (T : Nat → Nat) (n s : Nat) : Nat := if sml (T s) = true then av sml T n (s + 1) else if dgt (T s) = true then av dgt T n (s + 1) else s + 1
def tst (T : Nat → Nat) (n : Nat) : Nat → Nat
  | 0 => av spc T n 0
  | i + 1 => if tst T n i < n then av spc T n (ten T n (tst T n i)) else n
theorem ten_p {T : Nat → Nat} {n s : Nat} (h : s < n) : s < ten T n s ∧ ten T n s ≤ n := by
  unfold ten
  have h1 := av_ge sml T n (s + 1)
  have h2 := av_ge dgt T n (s + 1)
  have h3 := av_le (q := sml) (T := T) (show s + 1 ≤ n by omega)
  have h4 := av_le (q := dgt) (T := T) (show s + 1 ≤ n by omega)
  split
  · omega
  · split <;> omega
theorem tst_le (T : Nat → Nat) (n : Nat) : ∀ i, tst T n i ≤ n
  | 0 => av_le (by omega)
  | i + 1 => by
    unfold tst
    split
    next h => exact av_le (ten_p h).2
    next h => exact Nat.le_refl _
theorem tst_lt {T : Nat → Nat} {n i : Nat} (h : tst T n i < n) : tst T n i < tst T n (i + 1) := by
  have h1 := ten_p (T := T) h
  have h2 := av_ge spc T n (ten T n (tst T n i))
  show _ < (if tst T n i < n then _ else n)
  rw [if_pos h]
  omega
theorem tst_ns {T : Nat → Nat} {n : Nat} : ∀ i, tst T n i < n → spc (T (tst T n i)) = false
  | 0, h => av_no h
  | i + 1, h => by
    by_cases y : tst T n i < n
    · have e : tst T n (i + 1) = av spc T n (ten T n (tst T n i)) := if_pos y
      rw [e] at h ⊢
      exact av_no h
    · have e : tst T n (i + 1) = n := if_neg y
      omega
theorem tst_ge {T : Nat → Nat} {n : Nat} : ∀ i, tst T n i < n → i ≤ tst T n i
  | 0, _ => Nat.zero_le _
  | i + 1, h => by
    have y : tst T n i < n := by
      apply Decidable.byContradiction
      intro y
      have e : tst T n (i + 1) = n := if_neg y
      omega
    have h1 := tst_ge i y
    have h2 := tst_lt y
    omega
theorem tst_end (T : Nat → Nat) (n : Nat) : tst T n n = n := by
  have h1 := tst_le T n n
  apply Decidable.byContradiction
  intro h
  have := tst_ge (T := T) (n := n) n (by omega)
  omega
theorem tst_past {T : Nat → Nat} {n i : Nat} (h : tst T n i = n) : ∀ d, tst T n (i + d) = n
  | 0 => h
  | d + 1 => by
    show (if tst T n (i + d) < n then _ else n) = n
    rw [tst_past h d]
    exact if_neg (by omega)
/-- how many tokens -/
def tmn (T : Nat → Nat) (n : Nat) : Nat → Nat → Nat
  | 0, i => i
  | m + 1, i => if tst T n i < n then tmn T n m (i + 1) else i
def tmy (T : Nat → Nat) (n : Nat) : Nat := tmn T n n 0
theorem tmn_p {T : Nat → Nat} {n : Nat} : ∀ m i, i + m = n → (∀ k, k < i → tst T n k < n) → (∀ k, k < tmn T n m i → tst T n k < n) ∧ tst T n (tmn T n m i) = n ∧ tmn T n m i ≤ n
  | 0, i, h, g => by
    have : i = n := by omega
    subst this
    exact ⟨g, tst_end T i, Nat.le_refl _⟩
  | m + 1, i, h, g => by
    unfold tmn
    by_cases y : tst T n i < n
    · rw [if_pos y]
      refine tmn_p m (i + 1) (by omega) fun k hk => ?_
      by_cases z : k = i
      · rw [z]; exact y
      · exact g k (by omega)
    · rw [if_neg y]
      have := tst_le T n i
      exact ⟨g, by omega, by omega⟩
theorem tmy_p (T : Nat → Nat) (n : Nat) : (∀ k, k < tmy T n → tst T n k < n) ∧ tst T n (tmy T n) = n ∧ tmy T n ≤ n := tmn_p n 0 (by omega) fun k hk => absurd hk (Nat.not_lt_zero k)
theorem tmy_lt {T : Nat → Nat} {n k : Nat} : k < tmy T n ↔ tst T n k < n := by
  obtain ⟨h1, h2, -⟩ := tmy_p T n
  refine ⟨h1 k, fun h => ?_⟩
  apply Decidable.byContradiction
  intro y
  have := tst_past h2 (k - tmy T n)
  rw [show tmy T n + (k - tmy T n) = k by omega] at this
  omega
/-- numbers -/
def vlu (T : Nat → Nat) (s : Nat) : Nat → Nat
  | 0 => 0
  | k + 1 => if vlu T s k ≤ 1000000 then 10 * vlu T s k + T (s + k) - 48 else vlu T s k
def vl9 (T : Nat → Nat) (s : Nat) : Nat → Nat
  | 0 => 0
  | k + 1 => min (vl9 T s k * 10 + T (s + k) - 48) 1001
theorem vl9_v {T : Nat → Nat} {s : Nat} : ∀ k, (∀ j, j < k → dgt (T (s + j)) = true) → vl9 T s k = min (vlu T s k) 1001 ∧ vlu T s k ≤ 10000009
  | 0, _ => ⟨rfl, by unfold vlu; omega⟩
  | k + 1, h => by
    obtain ⟨h1, h2⟩ := vl9_v k fun j hj => h j (by omega)
    have h3 := of_decide_eq_true (h k (by omega))
    unfold vl9 vlu
    rw [h1]
    split <;> omega
/-- words -/
def wPs : List Nat := [0, 6, 12, 17, 20, 23, 27, 31, 35, 41, 46, 50, 54, 60, 65, 69, 74, 81, 87, 92, 97, 103, 108, 113, 119, 124, 129, 132, 137, 143]
def wP (k : Nat) : Nat := wPs.getD k 0
def wL (k : Nat) : Nat := wP (k + 1) - wP k - 1
def wB (k : Nat) : Nat := wbytes.getD k 0
theorem w_tab : ∀ k, k < 29 → wP (k + 1) = wP k + wL k + 1 ∧ wP k + wL k < 143 ∧ wL k < 10 ∧ wB (wP k + wL k) = 32 := by decide +kernel
theorem w_let : ∀ k, k < 29 → ∀ j, j < wL k → 97 ≤ wB (wP k + j) ∧ wB (wP k + j) ≤ 122 := by decide +kernel
theorem w_dif : ∀ k, k < 29 → ∀ k', k' < 29 → k ≠ k' → wL k = wL k' → ∃ j, j < wL k ∧ wB (wP k + j) ≠ wB (wP k' + j) := by decide +kernel
abbrev wq (T : Nat → Nat) (s e k : Nat) : Prop := e = s + wL k ∧ ∀ j, j < wL k → T (s + j) = wB (wP k + j)
theorem wq_1 {T : Nat → Nat} {s e k k' : Nat} (hk : k < 29) (hk' : k' < 29) (h : wq T s e k) (h' : wq T s e k') : k = k' := by
  apply Decidable.byContradiction
  intro y
  obtain ⟨a1, a2⟩ := h
  obtain ⟨b1, b2⟩ := h'
  have e1 : wL k = wL k' := by omega
  obtain ⟨j, hj, z⟩ := w_dif k hk k' hk' y e1
  exact z ((a2 j hj).symm.trans (b2 j (by omega)))
def wdf (T : Nat → Nat) (s e : Nat) : Nat → Nat → Nat
  | 0, _ => 0
  | m + 1, k => if wq T s e k then k + 1 else wdf T s e m (k + 1)
def wdn (T : Nat → Nat) (s e : Nat) : Nat := wdf T s e 29 0
theorem wdf_at {T : Nat → Nat} {s e k : Nat} (hq : wq T s e k) (hk : k < 29) : ∀ m a, a + m = 29 → a ≤ k → wdf T s e m a = k + 1
  | 0, a, h, g => by omega
  | m + 1, a, h, g => by
    unfold wdf
    by_cases y : wq T s e a
    · rw [if_pos y, wq_1 (by omega) hk y hq]
    · have : a ≠ k := fun z => y (z ▸ hq)
      rw [if_neg y]
      exact wdf_at hq hk m (a + 1) (by omega) (by omega)
theorem wdn_at {T : Nat → Nat} {s e k : Nat} (hq : wq T s e k) (hk : k < 29) : wdn T s e = k + 1 := wdf_at hq hk 29 0 rfl (by omega)
theorem wdf_no {T : Nat → Nat} {s e : Nat} (h : ∀ k, k < 29 → ¬ wq T s e k) : ∀ m a, a + m = 29 → wdf T s e m a = 0
  | 0, a, _ => rfl
  | m + 1, a, g => by
    unfold wdf
    rw [if_neg (h a (by omega))]
    exact wdf_no h m (a + 1) (by omega)
theorem wdn_no {T : Nat → Nat} {s e : Nat} (h : ∀ k, k < 29 → ¬ wq T s e k) : wdn T s e = 0 := wdf_no h 29 0 rfl
theorem wdn_le (T : Nat → Nat) (s e : Nat) : wdn T s e ≤ 29 := by
  by_cases h : ∃ k, k < 29 ∧ wq T s e k
  · obtain ⟨k, h1, h2⟩ := h
    rw [wdn_at h2 h1]
    omega
  · rw [wdn_no fun k hk hq => h ⟨k, hk, hq⟩]
    omega
theorem wdn_iff {T : Nat → Nat} {s e k : Nat} (hk : k < 29) : wq T s e k ↔ wdn T s e = k + 1 := by
  refine ⟨fun h => wdn_at h hk, fun h => ?_⟩
  apply Decidable.byContradiction
  intro y
  by_cases z : ∃ k', k' < 29 ∧ wq T s e k'
  · obtain ⟨k', h1, h2⟩ := z
    rw [wdn_at h2 h1] at h
    exact y (show wq T s e k by rw [show k = k' by omega]; exact h2)
  · rw [wdn_no fun k hk hq => z ⟨k, hk, hq⟩] at h
    omega
/-- what the token at a place is -/
def cod (T : Nat → Nat) (n s : Nat) : Nat := if sml (T s) = true then wdn T s (ten T n s) else if dgt (T s) = true then 50 else 100 + T s
def tkc (T : Nat → Nat) (n i : Nat) : Nat := if tst T n i < n then cod T n (tst T n i) else 0
def vlc (T : Nat → Nat) (n i : Nat) : Nat := if tst T n i < n ∧ dgt (T (tst T n i)) = true then vlu T (tst T n i) (ten T n (tst T n i) - tst T n i) else 0
end
