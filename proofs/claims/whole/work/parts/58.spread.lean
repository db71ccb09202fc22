section
/-! Who is come to. -/
def sp1 (nx : Nat → Nat) (A : Nat) : Nat → Nat → Nat
  | 0, m => m
  | k + 1, m => if (sp1 nx A k m).testBit k = true then sp1 nx A k m ||| (nx k &&& A) else sp1 nx A k m
def spn (nx : Nat → Nat) (A n : Nat) : Nat → Nat → Nat
  | 0, m => m
  | r + 1, m => sp1 nx A n (spn nx A n r m)
theorem sp1_lt {nx : Nat → Nat} {A : Nat} (hA : A < 256) {m : Nat} (hm : m < 256) : ∀ k, sp1 nx A k m < 256
  | 0 => hm
  | k + 1 => by
    have h := sp1_lt (nx := nx) hA hm k
    unfold sp1
    split
    · exact Nat.or_lt_two_pow (n := 8) h (Nat.and_lt_two_pow (n := 8) _ hA)
    · exact h
theorem spn_lt {nx : Nat → Nat} {A n : Nat} (hA : A < 256) {m : Nat} (hm : m < 256) : ∀ r, spn nx A n r m < 256
  | 0 => hm
  | r + 1 => sp1_lt hA (spn_lt hA hm r) n
theorem sp1_sub {nx : Nat → Nat} {A m i : Nat} (h : m.testBit i = true) : ∀ k, (sp1 nx A k m).testBit i = true
  | 0 => h
  | k + 1 => by
    unfold sp1
    split
    · rw [Nat.testBit_or, sp1_sub h k]; rfl
    · exact sp1_sub h k
theorem sp1_in {nx : Nat → Nat} {A n m : Nat} (hx : ∀ k, k < n → ∀ i, (nx k).testBit i = true → i < n) (hm : ∀ i, m.testBit i = true → i < n) : ∀ k, k ≤ n → ∀ i, (sp1 nx A k m).testBit i = true → i < n
  | 0, _ => hm
  | k + 1, hk => by
    intro i
    unfold sp1
    split
    · rw [Nat.testBit_or, Nat.testBit_and]
      intro z
      cases e : (sp1 nx A k m).testBit i with
      | true => exact sp1_in hx hm k (by omega) i e
      | false =>
        rw [e] at z
        cases e2 : (nx k).testBit i with
        | true => exact hx k (by omega) i e2
        | false => rw [e2] at z; cases z
    · exact sp1_in hx hm k (by omega) i
theorem spn_in {nx : Nat → Nat} {A n m : Nat} (hx : ∀ k, k < n → ∀ i, (nx k).testBit i = true → i < n) (hm : ∀ i, m.testBit i = true → i < n) : ∀ r i, (spn nx A n r m).testBit i = true → i < n
  | 0 => hm
  | r + 1 => sp1_in hx (spn_in hx hm r) n (Nat.le_refl _)
theorem pop_n : ∀ n, n ≤ 8 → ∀ m, m < 2 ^ n → pop m ≤ n := by decide +kernel
theorem pop_0 : ∀ m, m < 256 → pop m = 0 → m = 0 := by decide +kernel
theorem bt_n {b c : Bool} (h : b = true → c = true) : b.toNat ≤ c.toNat := by
  cases b with
  | false => exact Nat.zero_le _
  | true => rw [h rfl]; exact Nat.le_refl _
theorem eq8 {m q : Nat} (hm : m < 256) (hq : q < 256) (h : ∀ i, i < 8 → m.testBit i = q.testBit i) : m = q := by
  apply Nat.eq_of_testBit_eq
  intro i
  by_cases hi : i < 8
  · exact h i hi
  · have k : ∀ x, x < 256 → x.testBit i = false := fun x hx => Nat.testBit_lt_two_pow (Nat.lt_of_lt_of_le hx (show 2 ^ 8 ≤ 2 ^ i from Nat.pow_le_pow_right (by decide) (by omega)))
    rw [k m hm, k q hq]
theorem pop_lt {m q : Nat} (hm : m < 256) (hq : q < 256) (h : ∀ i, m.testBit i = true → q.testBit i = true) (hne : q ≠ m) : pop m < pop q := by
  have e0 := bt_n (h 0)
  have e1 := bt_n (h 1)
  have e2 := bt_n (h 2)
  have e3 := bt_n (h 3)
  have e4 := bt_n (h 4)
  have e5 := bt_n (h 5)
  have e6 := bt_n (h 6)
  have e7 := bt_n (h 7)
  rcases Nat.lt_or_ge (pop m) (pop q) with z | z
  · exact z
  · exfalso
    apply hne
    apply eq8 hq hm
    unfold pop at z
    have k : ∀ b c : Bool, b.toNat = c.toNat → c = b := by decide
    intro i hi
    have hi8 : i = 0 ∨ i = 1 ∨ i = 2 ∨ i = 3 ∨ i = 4 ∨ i = 5 ∨ i = 6 ∨ i = 7 := by omega
    rcases hi8 with rfl | rfl | rfl | rfl | rfl | rfl | rfl | rfl
    · exact k _ _ (by omega)
    · exact k _ _ (by omega)
    · exact k _ _ (by omega)
    · exact k _ _ (by omega)
    · exact k _ _ (by omega)
    · exact k _ _ (by omega)
    · exact k _ _ (by omega)
    · exact k _ _ (by omega)
theorem lt_of_bits {m n : Nat} (hm : ∀ i, m.testBit i = true → i < n) : m < 2 ^ n := by
  apply Nat.lt_pow_two_of_testBit
  intro i hi
  cases e : m.testBit i with
  | false => rfl
  | true => exact absurd (hm i e) (by omega)
section
variable {nx : Nat → Nat} {A n m : Nat}
theorem spn_fix (hn : n ≤ 8) (hA : A < 256) (hx : ∀ k, k < n → ∀ i, (nx k).testBit i = true → i < n) (hm : ∀ i, m.testBit i = true → i < n) : sp1 nx A n (spn nx A n n m) = spn nx A n n m := by
  have hm8 : m < 256 := Nat.lt_of_lt_of_le (lt_of_bits hm) (show 2 ^ n ≤ 2 ^ 8 from Nat.pow_le_pow_right (by decide) hn)
  have stay : ∀ r, sp1 nx A n (spn nx A n r m) = spn nx A n r m → ∀ k, sp1 nx A n (spn nx A n (r + k) m) = spn nx A n (r + k) m := by
    intro r hr k
    induction k with
    | zero => exact hr
    | succ k ih =>
      show sp1 nx A n (sp1 nx A n (spn nx A n (r + k) m)) = sp1 nx A n (spn nx A n (r + k) m)
      rw [ih, ih]
  have grow : ∀ r, (∃ k, k ≤ r ∧ sp1 nx A n (spn nx A n k m) = spn nx A n k m) ∨ r ≤ pop (spn nx A n r m) := by
    intro r
    induction r with
    | zero => exact Or.inr (Nat.zero_le _)
    | succ r ih =>
      rcases ih with ⟨k, hk, e⟩ | h
      · exact Or.inl ⟨k, by omega, e⟩
      · by_cases e : sp1 nx A n (spn nx A n r m) = spn nx A n r m
        · exact Or.inl ⟨r, by omega, e⟩
        · right
          have := pop_lt (spn_lt hA hm8 r) (spn_lt hA hm8 (r + 1)) (fun i hi => sp1_sub hi n) e
          omega
  rcases grow n with ⟨k, hk, e⟩ | h
  · have := stay k e (n - k)
    rw [Nat.add_sub_cancel' hk] at this
    exact this
  · by_cases e : sp1 nx A n (spn nx A n n m) = spn nx A n n m
    · exact e
    · exfalso
      have h1 := pop_lt (spn_lt hA hm8 n) (spn_lt hA hm8 (n + 1)) (fun i hi => sp1_sub hi n) e
      have h2 := pop_n n hn (spn nx A n (n + 1) m) (lt_of_bits (spn_in hx hm (n + 1)))
      omega
theorem spn_ge (hn : n ≤ 8) (hA : A < 256) (hx : ∀ k, k < n → ∀ i, (nx k).testBit i = true → i < n) (hm : ∀ i, m.testBit i = true → i < n) : ∀ r, n ≤ r → spn nx A n r m = spn nx A n n m := by
  intro r hr
  obtain ⟨k, rfl⟩ : ∃ k, r = n + k := ⟨r - n, by omega⟩
  induction k with
  | zero => rfl
  | succ k ih =>
    show sp1 nx A n (spn nx A n (n + k) m) = _
    rw [ih (by omega), spn_fix hn hA hx hm]
end
theorem n_bit2 {h k : Nat} (hh : h < 256) (hk : k < 8) : (((Int32.ofNat h >>> (Int32.ofNat k &&& 31)) &&& (1 : Int32)) = 1) = (h.testBit k = true) := by
  rw [n_bit h hh k hk, zb_1]
theorem v_spread {μ : hm_M} {v0 n m A : Nat} {nx : Nat → Nat} {al : Int32} (hn : n ≤ 8) (hA : A < 256) (hm : m < 256) (hx : ∀ k, k < n → μ.1 v0 k = Int32.ofNat (nx k) ∧ nx k < 256) (hal : ∀ x, x < 256 → Int32.ofNat x &&& al = Int32.ofNat (x &&& A)) : f_X0_spread v0 8 (Int32.ofNat n) (Int32.ofNat m) al μ = some (Int32.ofNat (spn nx A n n m)) := by
  have inner : ∀ (w : Int32) (c6 : Int32 → Int32 → hm_M → Option Int32) (e55 e49 : Int32 → hm_M → Option Int32) (m : Nat), m < 256 → f_X0_spread_L15 v0 8 (Int32.ofNat n) (Int32.ofNat m) al w c6 e55 e49 hm_fu (Int32.ofNat m) (Int32.ofNat 0) μ = e49 (Int32.ofNat (sp1 nx A n m)) μ := by
    intro w c6 e55 e49 m hm
    refine lo3 (L := f_X0_spread_L15 v0 8 (Int32.ofNat n) (Int32.ofNat m) al w c6 e55 e49) (fun k x y μ1 => x = Int32.ofNat (sp1 nx A k m) ∧ y = Int32.ofNat k ∧ μ1 = μ) (fun o => o = e49 (Int32.ofNat (sp1 nx A n m)) μ) n (fun k x y μ1 hk hI => Or.inl ?_) (fun x y μ1 hI f => ?_) (fu_lt (by omega)) ⟨rfl, rfl, rfl⟩
    · obtain ⟨rfl, rfl, rfl⟩ := hI
      have hlt := sp1_lt (nx := nx) hA hm k
      refine ⟨_, _, _, ⟨rfl, rfl, rfl⟩, fun f => ?_⟩
      rw [f_X0_spread_L15, if_neg (by rw [n_le (by omega) (by omega)]; omega)]
      have e1 : Int32.ofNat k + 1 = Int32.ofNat (k + 1) := n_add k 1
      conv => rhs; rw [sp1]
      by_cases z : (sp1 nx A k m).testBit k = true
      · rw [if_pos (by rw [n_bit2 hlt (by omega)]; exact z), if_pos z, ld_n (by omega) (by decide), Option.bind_some, (hx k hk).1, hal _ (hx k hk).2, n_or hlt (Nat.and_lt_two_pow (n := 8) _ hA)]
        unfold f_X0_spread_J43
        rw [e1]
      · rw [if_neg (by rw [n_bit2 hlt (by omega)]; exact z), if_neg z]
        unfold f_X0_spread_J43
        rw [e1]
    · obtain ⟨rfl, rfl, rfl⟩ := hI
      rw [f_X0_spread_L15, if_pos (by rw [n_le (by omega) (by omega)]; omega)]
  have inner2 : ∀ (w : Int32) (v2 : Int32) (c6 : Int32 → Int32 → hm_M → Option Int32) (e55 e49 : Int32 → hm_M → Option Int32) (m : Nat), m < 256 → f_X0_spread_L15 v0 8 (Int32.ofNat n) v2 al w c6 e55 e49 hm_fu (Int32.ofNat m) (Int32.ofNat 0) μ = e49 (Int32.ofNat (sp1 nx A n m)) μ := by
    intro w v2 c6 e55 e49 m hm
    refine lo3 (L := f_X0_spread_L15 v0 8 (Int32.ofNat n) v2 al w c6 e55 e49) (fun k x y μ1 => x = Int32.ofNat (sp1 nx A k m) ∧ y = Int32.ofNat k ∧ μ1 = μ) (fun o => o = e49 (Int32.ofNat (sp1 nx A n m)) μ) n (fun k x y μ1 hk hI => Or.inl ?_) (fun x y μ1 hI f => ?_) (fu_lt (by omega)) ⟨rfl, rfl, rfl⟩
    · obtain ⟨rfl, rfl, rfl⟩ := hI
      have hlt := sp1_lt (nx := nx) hA hm k
      refine ⟨_, _, _, ⟨rfl, rfl, rfl⟩, fun f => ?_⟩
      rw [f_X0_spread_L15, if_neg (by rw [n_le (by omega) (by omega)]; omega)]
      have e1 : Int32.ofNat k + 1 = Int32.ofNat (k + 1) := n_add k 1
      conv => rhs; rw [sp1]
      by_cases z : (sp1 nx A k m).testBit k = true
      · rw [if_pos (by rw [n_bit2 hlt (by omega)]; exact z), if_pos z, ld_n (by omega) (by decide), Option.bind_some, (hx k hk).1, hal _ (hx k hk).2, n_or hlt (Nat.and_lt_two_pow (n := 8) _ hA)]
        unfold f_X0_spread_J43
        rw [e1]
      · rw [if_neg (by rw [n_bit2 hlt (by omega)]; exact z), if_neg z]
        unfold f_X0_spread_J43
        rw [e1]
    · obtain ⟨rfl, rfl, rfl⟩ := hI
      rw [f_X0_spread_L15, if_pos (by rw [n_le (by omega) (by omega)]; omega)]
  unfold f_X0_spread
  refine lo3 (L := f_X0_spread_L6 v0 8 (Int32.ofNat n) (Int32.ofNat m) al (fun z4_4 μz4 => some z4_4)) (fun k x y μ1 => x = Int32.ofNat (spn nx A n k m) ∧ y = Int32.ofNat k ∧ μ1 = μ) (fun o => o = some (Int32.ofNat (spn nx A n n m))) n (fun k x y μ1 hk hI => Or.inl ?_) (fun x y μ1 hI f => ?_) (fu_lt (by omega)) ⟨rfl, rfl, rfl⟩
  · obtain ⟨rfl, rfl, rfl⟩ := hI
    refine ⟨_, _, _, ⟨rfl, rfl, rfl⟩, fun f => ?_⟩
    rw [f_X0_spread_L6, if_neg (by rw [n_le (by omega) (by omega)]; omega), show (0 : Int32) = Int32.ofNat 0 from rfl, inner2 _ _ _ _ _ _ (spn_lt hA hm k)]
    rw [show Int32.ofNat k + 1 = Int32.ofNat (k + 1) from n_add k 1]
    rfl
  · obtain ⟨rfl, rfl, rfl⟩ := hI
    rw [f_X0_spread_L6, if_pos (by rw [n_le (by omega) (by omega)]; omega)]
theorem v_comes10 {μ : hm_M} {n p A : Nat} {nx : Nat → Nat} {w : Int32} (hn : n ≤ 8) (hA : A < 256) (hp : p < 8) (h0 : μ.1 181 54 = Int32.ofNat n) (hx : ∀ k, k < n → μ.1 195 k = Int32.ofNat (nx k) ∧ nx k < 256) (hal : ∀ x, x < 256 → Int32.ofNat x &&& (w ^^^ -1) = Int32.ofNat (x &&& A)) : f_X10_comesTo (Int32.ofNat p) w μ = some (Int32.ofNat (spn nx A n 8 (2 ^ p))) := by
  have e0 : f_X10_many μ = some (Int32.ofNat n) := by
    unfold f_X10_many
    rw [show (54 : Int32) = Int32.ofNat 54 from rfl, ld_n (by decide) (by decide), h0]
    rfl
  have inner : ∀ (q : Int32) (c6 : Int32 → Int32 → hm_M → Option Int32) (e55 e49 : Int32 → hm_M → Option Int32) (m : Nat), m < 256 → f_X10_comesTo_L17 (Int32.ofNat p) w q c6 e55 e49 hm_fu (Int32.ofNat m) (Int32.ofNat 0) μ = e49 (Int32.ofNat (sp1 nx A n m)) μ := by
    intro q c6 e55 e49 m hm
    refine lo3 (L := f_X10_comesTo_L17 (Int32.ofNat p) w q c6 e55 e49) (fun k x y μ1 => x = Int32.ofNat (sp1 nx A k m) ∧ y = Int32.ofNat k ∧ μ1 = μ) (fun o => o = e49 (Int32.ofNat (sp1 nx A n m)) μ) n (fun k x y μ1 hk hI => Or.inl ?_) (fun x y μ1 hI f => ?_) (fu_lt (by omega)) ⟨rfl, rfl, rfl⟩
    · obtain ⟨rfl, rfl, rfl⟩ := hI
      have hlt := sp1_lt (nx := nx) hA hm k
      refine ⟨_, _, _, ⟨rfl, rfl, rfl⟩, fun f => ?_⟩
      rw [f_X10_comesTo_L17, e0, Option.bind_some, if_neg (by rw [n_le (by omega) (by omega)]; omega), v_isIn hlt (by omega), Option.bind_some]
      have e1 : Int32.ofNat k + 1 = Int32.ofNat (k + 1) := n_add k 1
      conv => rhs; rw [sp1]
      cases z : (sp1 nx A k m).testBit k with
      | true =>
        rw [if_neg (show ¬ zb true = 0 by decide), if_pos rfl, ld_n (by omega) (by decide), Option.bind_some, (hx k hk).1, hal _ (hx k hk).2, Option.bind_some, n_or hlt (Nat.and_lt_two_pow (n := 8) _ hA)]
        unfold f_X10_comesTo_J49
        rw [e1]
      | false =>
        rw [if_pos (show zb false = 0 from rfl), if_neg (by decide)]
        unfold f_X10_comesTo_J49
        rw [e1]
    · obtain ⟨rfl, rfl, rfl⟩ := hI
      rw [f_X10_comesTo_L17, e0, Option.bind_some, if_pos (by rw [n_le (by omega) (by omega)]; omega)]
  unfold f_X10_comesTo
  rw [n_shl p (by omega), Option.bind_some]
  refine lo3 (L := f_X10_comesTo_L7 (Int32.ofNat p) w (fun z8_3 μz8 => some z8_3)) (fun k x y μ1 => x = Int32.ofNat (spn nx A n k (2 ^ p)) ∧ y = Int32.ofNat k ∧ μ1 = μ) (fun o => o = some (Int32.ofNat (spn nx A n 8 (2 ^ p)))) 8 (fun k x y μ1 hk hI => Or.inl ?_) (fun x y μ1 hI f => ?_) (fu_lt (by decide)) ⟨rfl, rfl, rfl⟩
  · obtain ⟨rfl, rfl, rfl⟩ := hI
    refine ⟨_, _, _, ⟨rfl, rfl, rfl⟩, fun f => ?_⟩
    rw [f_X10_comesTo_L7, if_neg (by rw [show (8 : Int32) = Int32.ofNat 8 from rfl, n_le (by omega) (by omega)]; omega), show (0 : Int32) = Int32.ofNat 0 from rfl, inner _ _ _ _ _ (spn_lt hA (p2_lt hp) k)]
    rw [show Int32.ofNat k + 1 = Int32.ofNat (k + 1) from n_add k 1]
    rfl
  · obtain ⟨rfl, rfl, rfl⟩ := hI
    rw [f_X10_comesTo_L7, if_pos (by decide)]
theorem al_m1 (x : Nat) (hx : x < 256) : Int32.ofNat x &&& (-1) = Int32.ofNat (x &&& 255) := by
  rw [show (255 : Nat) = 2 ^ 8 - 1 from rfl, Nat.and_two_pow_sub_one_eq_mod, Nat.mod_eq_of_lt hx]
  apply Int32.toBitVec_inj.mp
  show BitVec.ofNat 32 x &&& BitVec.allOnes 32 = BitVec.ofNat 32 x
  exact BitVec.and_allOnes
theorem al_m1' (x : Nat) (hx : x < 256) : Int32.ofNat x &&& ((0 : Int32) ^^^ -1) = Int32.ofNat (x &&& 255) := by
  rw [show (0 : Int32) ^^^ -1 = -1 from rfl]
  exact al_m1 x hx
end
