/-! Numbers; rows; loops. -/
theorem n_toInt {n : Nat} (h : n < 2147483648) : (Int32.ofNat n).toInt = n := Int32.toInt_ofNat_of_lt h
theorem n_cl {n : Nat} (h : n < 2147483648) : (Int32.ofNat n).toNatClampNeg = n := (lj_nat h).2.1
theorem n_nn {n : Nat} (h : n < 2147483648) : ¬ Int32.ofNat n < 0 := (lj_nat h).2.2
theorem n_lt {a b : Nat} (ha : a < 2147483648) (hb : b < 2147483648) : (Int32.ofNat a < Int32.ofNat b) = (a < b) := by
  rw [Int32.lt_iff_toInt_lt, n_toInt ha, n_toInt hb]
  exact propext Int.ofNat_lt
theorem n_le {a b : Nat} (ha : a < 2147483648) (hb : b < 2147483648) : (Int32.ofNat a ≤ Int32.ofNat b) = (a ≤ b) := by
  rw [Int32.le_iff_toInt_le, n_toInt ha, n_toInt hb]
  exact propext Int.ofNat_le
theorem n_eq {a b : Nat} (ha : a < 2147483648) (hb : b < 2147483648) : (Int32.ofNat a = Int32.ofNat b) = (a = b) := by
  apply propext
  constructor
  · intro h
    have := congrArg Int32.toInt h
    rw [n_toInt ha, n_toInt hb] at this
    exact Int.ofNat.inj this
  · rintro rfl
    rfl
theorem n_add (a b : Nat) : Int32.ofNat a + Int32.ofNat b = Int32.ofNat (a + b) := (Int32.ofNat_add a b).symm
theorem n_mul (a b : Nat) : Int32.ofNat a * Int32.ofNat b = Int32.ofNat (a * b) := (Int32.ofNat_mul a b).symm
theorem n_sub {a b : Nat} (h : b ≤ a) : Int32.ofNat a - Int32.ofNat b = Int32.ofNat (a - b) := by
  have e : Int32.ofNat a = Int32.ofNat (a - b) + Int32.ofNat b := by rw [n_add, Nat.sub_add_cancel h]
  rw [e, Int32.add_sub_cancel]
theorem n_div {a b : Nat} (ha : a < 2147483648) (hb : b < 2147483648) : Int32.ofNat a / Int32.ofNat b = Int32.ofNat (a / b) := by
  apply Int32.toInt_inj.mp
  have h1 : a / b < 2147483648 := Nat.lt_of_le_of_lt (Nat.div_le_self a b) ha
  rw [Int32.toInt_div, n_toInt ha, n_toInt hb, n_toInt h1]
  have e : (a : Int).tdiv (b : Int) = ((a / b : Nat) : Int) := rfl
  rw [e]
  rw [Int.bmod_def]
  have : ((a / b : Nat) : Int) < 2147483648 := Int.ofNat_lt.mpr h1
  have h0 : (0 : Int) ≤ ((a / b : Nat) : Int) := Int.natCast_nonneg _
  split <;> omega
theorem n_rem {a b : Nat} (ha : a < 2147483648) (hb : b < 2147483648) : Int32.ofNat a - Int32.ofNat a / Int32.ofNat b * Int32.ofNat b = Int32.ofNat (a % b) := by
  rw [n_div ha hb, n_mul, n_sub (Nat.div_mul_le_self a b)]
  congr 1
  have := Nat.div_add_mod a b
  rw [Nat.mul_comm] at this
  omega
theorem n_of {x : Int32} (h : ¬ x < 0) : ∃ n, n < 2147483648 ∧ x = Int32.ofNat n := by
  rw [Int32.lt_iff_toInt_lt] at h
  have h0 : (0 : Int32).toInt = 0 := rfl
  have h2 := Int32.toInt_lt x
  refine ⟨x.toInt.toNat, by omega, ?_⟩
  apply Int32.toInt_inj.mp
  rw [n_toInt (by omega)]
  omega
theorem ld_n {μ : hm_M} {a L n : Nat} (h : n < L) (hL : L < 2147483648) : hm_ld μ a L (Int32.ofNat n) = some (μ.1 a n) := by
  have h2 := n_cl (n := n) (by omega)
  unfold hm_ld
  rw [if_neg, h2]
  rw [h2]
  rintro (z | z)
  · exact n_nn (by omega) z
  · omega
theorem sd_n {μ : hm_M} {a L n : Nat} {x : Int32} (h : n < L) (hL : L < 2147483648) : hm_sd μ a L (Int32.ofNat n) x = some (hm_wI μ a n x) := by
  have h2 := n_cl (n := n) (by omega)
  unfold hm_sd
  rw [if_neg, h2]
  rw [h2]
  rintro (z | z)
  · exact n_nn (by omega) z
  · omega
theorem ldJ_n {μ : hm_M} {a L n : Nat} (h : n < L) (hL : L < 2147483648) : hm_ldJ μ a L (Int32.ofNat n) = some (μ.2.1 a n) := by
  have h2 := n_cl (n := n) (by omega)
  unfold hm_ldJ
  rw [if_neg, h2]
  rw [h2]
  rintro (z | z)
  · exact n_nn (by omega) z
  · omega
theorem sdJ_n {μ : hm_M} {a L n : Nat} {x : Int64} (h : n < L) (hL : L < 2147483648) : hm_sdJ μ a L (Int32.ofNat n) x = some (hm_wJ μ a n x) := by
  have h2 := n_cl (n := n) (by omega)
  unfold hm_sdJ
  rw [if_neg, h2]
  rw [h2]
  rintro (z | z)
  · exact n_nn (by omega) z
  · omega
theorem ldR_n {μ : hm_M} {a L n : Nat} (h : n < L) (hL : L < 2147483648) : hm_ldR μ a L (Int32.ofNat n) = some (μ.2.2.1 a n) := by
  have h2 := n_cl (n := n) (by omega)
  unfold hm_ldR
  rw [if_neg, h2]
  rw [h2]
  rintro (z | z)
  · exact n_nn (by omega) z
  · omega
/-- a memory with one number changed -/
theorem wI_at (μ : hm_M) (a j : Nat) (v : Int32) : (hm_wI μ a j v).1 a j = v := if_pos ⟨rfl, rfl⟩
theorem wI_ne {μ : hm_M} {a j b k : Nat} {v : Int32} (h : ¬ (b = a ∧ k = j)) : (hm_wI μ a j v).1 b k = μ.1 b k := if_neg h
theorem wI_j {μ : hm_M} {a j : Nat} {v : Int32} : (hm_wI μ a j v).2 = μ.2 := rfl
theorem wJ_at (μ : hm_M) (a j : Nat) (v : Int64) : (hm_wJ μ a j v).2.1 a j = v := if_pos ⟨rfl, rfl⟩
theorem wJ_ne {μ : hm_M} {a j b k : Nat} {v : Int64} (h : ¬ (b = a ∧ k = j)) : (hm_wJ μ a j v).2.1 b k = μ.2.1 b k := if_neg h
section LP
variable {A B C D E R : Type}
theorem lo1 {L : Nat → A → Option R} (I : Nat → A → Prop) (Q : Option R → Prop) (N : Nat) (hs : ∀ k a, k < N → I k a → (∃ a', I (k + 1) a' ∧ ∀ n, L (n + 1) a = L n a') ∨ ∀ n, Q (L (n + 1) a)) (he : ∀ a, I N a → ∀ n, Q (L (n + 1) a)) {fuel : Nat} (hf : N < fuel) {a : A} (h0 : I 0 a) : Q (L fuel a) := by
  have key : ∀ d k fuel a, k + d = N → d < fuel → I k a → Q (L fuel a) := by
    intro d
    induction d with
    | zero =>
      intro k fuel a hk hf h
      have : k = N := by omega
      subst this
      match fuel, hf with
      | f + 1, _ => exact he a h f
    | succ d ih =>
      intro k fuel a hk hf h
      match fuel, hf with
      | f + 1, hf =>
        rcases hs k a (by omega) h with ⟨a', h1, h2⟩ | h2
        · rw [h2]
          exact ih (k + 1) f a' (by omega) (by omega) h1
        · exact h2 f
  exact key N 0 fuel a (by omega) hf h0
theorem lo2 {L : Nat → A → B → Option R} (I : Nat → A → B → Prop) (Q : Option R → Prop) (N : Nat) (hs : ∀ k a b, k < N → I k a b → (∃ a' b', I (k + 1) a' b' ∧ ∀ n, L (n + 1) a b = L n a' b') ∨ ∀ n, Q (L (n + 1) a b)) (he : ∀ a b, I N a b → ∀ n, Q (L (n + 1) a b)) {fuel : Nat} (hf : N < fuel) {a : A} {b : B} (h0 : I 0 a b) : Q (L fuel a b) :=
  lo1 (L := fun n (q : A × B) => L n q.1 q.2) (fun k q => I k q.1 q.2) Q N (fun k q hk h => (hs k q.1 q.2 hk h).imp (fun ⟨a', b', h1, h2⟩ => ⟨(a', b'), h1, h2⟩) id) (fun q h => he q.1 q.2 h) hf (a := (a, b)) h0
theorem lo3 {L : Nat → A → B → C → Option R} (I : Nat → A → B → C → Prop) (Q : Option R → Prop) (N : Nat) (hs : ∀ k a b c, k < N → I k a b c → (∃ a' b' c', I (k + 1) a' b' c' ∧ ∀ n, L (n + 1) a b c = L n a' b' c') ∨ ∀ n, Q (L (n + 1) a b c)) (he : ∀ a b c, I N a b c → ∀ n, Q (L (n + 1) a b c)) {fuel : Nat} (hf : N < fuel) {a : A} {b : B} {c : C} (h0 : I 0 a b c) : Q (L fuel a b c) :=
  lo1 (L := fun n (q : A × B × C) => L n q.1 q.2.1 q.2.2) (fun k q => I k q.1 q.2.1 q.2.2) Q N (fun k q hk h => (hs k q.1 q.2.1 q.2.2 hk h).imp (fun ⟨a', b', c', h1, h2⟩ => ⟨(a', b', c'), h1, h2⟩) id) (fun q h => he q.1 q.2.1 q.2.2 h) hf (a := (a, b, c)) h0
theorem lo4 {L : Nat → A → B → C → D → Option R} (I : Nat → A → B → C → D → Prop) (Q : Option R → Prop) (N : Nat) (hs : ∀ k a b c d, k < N → I k a b c d → (∃ a' b' c' d', I (k + 1) a' b' c' d' ∧ ∀ n, L (n + 1) a b c d = L n a' b' c' d') ∨ ∀ n, Q (L (n + 1) a b c d)) (he : ∀ a b c d, I N a b c d → ∀ n, Q (L (n + 1) a b c d)) {fuel : Nat} (hf : N < fuel) {a : A} {b : B} {c : C} {d : D} (h0 : I 0 a b c d) : Q (L fuel a b c d) :=
  lo1 (L := fun n (q : A × B × C × D) => L n q.1 q.2.1 q.2.2.1 q.2.2.2) (fun k q => I k q.1 q.2.1 q.2.2.1 q.2.2.2) Q N (fun k q hk h => (hs k q.1 q.2.1 q.2.2.1 q.2.2.2 hk h).imp (fun ⟨a', b', c', d', h1, h2⟩ => ⟨(a', b', c', d'), h1, h2⟩) id) (fun q h => he q.1 q.2.1 q.2.2.1 q.2.2.2 h) hf (a := (a, b, c, d)) h0
end LP
theorem b2_some {α β γ : Type} (a : α) (b : β) (f : α → β → Option γ) : hm_b2 (some (a, b)) f = f a b := rfl
theorem pI_some (μ : hm_M) (a k : Nat) (x : Int32) : hm_pI μ a k x = some (hm_wI μ a k x) := rfl
theorem pZ_0 (μ : hm_M) (a k : Nat) : hm_pZ μ a k 0 = some (hm_wI μ a k 0) := rfl
theorem pZ_1 (μ : hm_M) (a k : Nat) : hm_pZ μ a k 1 = some (hm_wI μ a k 1) := rfl
theorem rz_0 : hm_rz 0 = some 0 := rfl
theorem rz_1 : hm_rz 1 = some 1 := rfl
theorem fu_lt {n : Nat} (h : n < 1000000) : n < hm_fu := h
theorem fu_ones : ∀ h, h < 256 → f_X10_ones (Int32.ofNat h) = f_J6_bitCount_0f7a4 (Int32.ofNat h) := by decide +kernel
theorem n_lit (n : Nat) : (OfNat.ofNat n : Int32) = Int32.ofNat (OfNat.ofNat n) := rfl
theorem n_neg {n : Nat} (h : n < 2147483648) : (-(Int32.ofNat n)).toInt = -(n : Int) := by
  rw [Int32.toInt_neg, n_toInt h, Int.bmod_def]
  split <;> omega
theorem i_lt (x y : Int32) : (x < y) = (x.toInt < y.toInt) := propext Int32.lt_iff_toInt_lt
theorem i_le (x y : Int32) : (x ≤ y) = (x.toInt ≤ y.toInt) := propext Int32.le_iff_toInt_le
theorem i_eq (x y : Int32) : (x = y) = (x.toInt = y.toInt) := propext Int32.toInt_inj.symm
theorem wI_eq {μ : hm_M} {a j b k : Nat} {v : Int32} (h1 : b = a) (h2 : k = j) : (hm_wI μ a j v).1 b k = v := if_pos ⟨h1, h2⟩
theorem n_0 : (0 : Int32) = Int32.ofNat 0 := rfl
