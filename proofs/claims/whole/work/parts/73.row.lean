section
/-! row. -/
theorem lr1 {A R : Type} {L : Nat → A → Option R} (I : Nat → A → Prop) (N : Nat) (hs : ∀ k a, k < N → I k a → ∃ a', I (k + 1) a' ∧ ∀ n, L (n + 1) a = L n a') {fuel : Nat} (hf : N ≤ fuel) {a : A} (h0 : I 0 a) : ∃ a', I N a' ∧ L fuel a = L (fuel - N) a' := by
  have key : ∀ d k fuel a, k + d = N → d ≤ fuel → I k a → ∃ a', I N a' ∧ L fuel a = L (fuel - d) a' := by
    intro d
    induction d with
    | zero =>
      intro k fuel a hk _ h
      have : k = N := by omega
      subst this
      exact ⟨a, h, rfl⟩
    | succ d ih =>
      intro k fuel a hk hf h
      obtain ⟨f, rfl⟩ : ∃ f, fuel = f + 1 := ⟨fuel - 1, by omega⟩
      obtain ⟨a1, h1, h2⟩ := hs k a (by omega) h
      obtain ⟨a2, h3, h4⟩ := ih (k + 1) f a1 (by omega) (by omega) h1
      exact ⟨a2, h3, by rw [h2, h4, show f + 1 - (d + 1) = f - d by omega]⟩
  exact key N 0 fuel a (by omega) hf h0
theorem lr4 {A B C D R : Type} {L : Nat → A → B → C → D → Option R} (I : Nat → A → B → C → D → Prop) (N : Nat) (hs : ∀ k a b c d, k < N → I k a b c d → ∃ a' b' c' d', I (k + 1) a' b' c' d' ∧ ∀ n, L (n + 1) a b c d = L n a' b' c' d') {fuel : Nat} (hf : N ≤ fuel) {a : A} {b : B} {c : C} {d : D} (h0 : I 0 a b c d) : ∃ a' b' c' d', I N a' b' c' d' ∧ L fuel a b c d = L (fuel - N) a' b' c' d' := by
  obtain ⟨⟨a', b', c', d'⟩, h1, h2⟩ := lr1 (L := fun n (q : A × B × C × D) => L n q.1 q.2.1 q.2.2.1 q.2.2.2) (fun k q => I k q.1 q.2.1 q.2.2.1 q.2.2.2) N (fun k q hk h => by
    obtain ⟨a', b', c', d', h1, h2⟩ := hs k q.1 q.2.1 q.2.2.1 q.2.2.2 hk h
    exact ⟨(a', b', c', d'), h1, h2⟩) hf (a := (a, b, c, d)) h0
  exact ⟨a', b', c', d', h1, h2⟩
theorem lr3 {A B C R : Type} {L : Nat → A → B → C → Option R} (I : Nat → A → B → C → Prop) (N : Nat) (hs : ∀ k a b c, k < N → I k a b c → ∃ a' b' c', I (k + 1) a' b' c' ∧ ∀ n, L (n + 1) a b c = L n a' b' c') {fuel : Nat} (hf : N ≤ fuel) {a : A} {b : B} {c : C} (h0 : I 0 a b c) : ∃ a' b' c', I N a' b' c' ∧ L fuel a b c = L (fuel - N) a' b' c' := by
  obtain ⟨⟨a', b', c'⟩, h1, h2⟩ := lr1 (L := fun n (q : A × B × C) => L n q.1 q.2.1 q.2.2) (fun k q => I k q.1 q.2.1 q.2.2) N (fun k q hk h => by
    obtain ⟨a', b', c', h1, h2⟩ := hs k q.1 q.2.1 q.2.2 hk h
    exact ⟨(a', b', c'), h1, h2⟩) hf (a := (a, b, c)) h0
  exact ⟨a', b', c', h1, h2⟩
theorem rf9_13 (k : Int32) (m : hm_M) : hm_wI (rf9 k m) 179 13 0 = rf9 k (hm_wI m 179 13 0) := by
  unfold rf9
  rw [wI_cm (hm_wI m 64 16 k) _ _ (show ¬ (157 = 179 ∧ rj9 k = 13) by omega), wI_cm m _ _ (show ¬ (64 = 179 ∧ 16 = 13) by omega), wI_ne (by omega)]
/-- one more person -/
def rad (ρ : Nat → Int32) (n c r q : Nat) (k : Nat) : Int32 := if k = n then Int32.ofNat c else if k = 8 + n then Int32.ofNat r else if k = 16 + n then 0 else if k = 25 + n then Int32.ofNat q else if k = 54 then Int32.ofNat (n + 1) else ρ k
theorem rad_ne {ρ : Nat → Int32} {n c r q k : Nat} (hn : n < 8) (h : 33 ≤ k ∧ k ≠ 54 ∨ k = 24) : rad ρ n c r q k = ρ k := by
  unfold rad
  rw [if_neg (by omega), if_neg (by omega), if_neg (by omega), if_neg (by omega), if_neg (by omega)]
theorem rad_54 {ρ : Nat → Int32} {n c r q : Nat} (hn : n < 8) : rad ρ n c r q 54 = Int32.ofNat (n + 1) := by
  unfold rad
  rw [if_neg (by omega), if_neg (by omega), if_neg (by omega), if_neg (by omega), if_pos rfl]
theorem rad_i {ρ : Nat → Int32} {n c r q i : Nat} (hn : n < 8) (hi : i < 8) : rad ρ n c r q i = (if i = n then Int32.ofNat c else ρ i) ∧ rad ρ n c r q (8 + i) = (if i = n then Int32.ofNat r else ρ (8 + i)) ∧ rad ρ n c r q (16 + i) = (if i = n then 0 else ρ (16 + i)) ∧ rad ρ n c r q (25 + i) = (if i = n then Int32.ofNat q else ρ (25 + i)) := by
  unfold rad
  by_cases z : i = n
  · refine ⟨?_, ?_, ?_, ?_⟩
    · rw [if_pos z, if_pos z]
    · rw [if_neg (by omega), if_pos (by omega), if_pos z]
    · rw [if_neg (by omega), if_neg (by omega), if_pos (by omega), if_pos z]
    · rw [if_neg (by omega), if_neg (by omega), if_neg (by omega), if_pos (by omega), if_pos z]
  · refine ⟨?_, ?_, ?_, ?_⟩
    · rw [if_neg z, if_neg (by omega), if_neg (by omega), if_neg (by omega), if_neg (by omega), if_neg z]
    · rw [if_neg (by omega), if_neg (by omega), if_neg (by omega), if_neg (by omega), if_neg (by omega), if_neg z]
    · rw [if_neg (by omega), if_neg (by omega), if_neg (by omega), if_neg (by omega), if_neg (by omega), if_neg z]
    · rw [if_neg (by omega), if_neg (by omega), if_neg (by omega), if_neg (by omega), if_neg (by omega), if_neg z]
theorem rad_D {ρ : Nat → Int32} {n c r q : Nat} (hD : DW ρ) (hn : nat (ρ 54) = n) (hn8 : n < 8) (hc : c < 25) (hr : r < 5) (hq : q < 4) : DW (rad ρ n c r q) := by
  have e52 : rad ρ n c r q 52 = ρ 52 := rad_ne hn8 (by omega)
  have e24 : rad ρ n c r q 24 = ρ 24 := rad_ne hn8 (by omega)
  have eb : ∀ p i, p < 8 → (nat (rad ρ n c r q (16 + p))).testBit i = if p = n then false else (nat (ρ (16 + p))).testBit i := by
    intro p i hp
    rw [(rad_i hn8 hp).2.2.1]
    by_cases z : p = n
    · rw [if_pos z, if_pos z]
      exact Nat.zero_testBit i
    · rw [if_neg z, if_neg z]
  refine ⟨?_, fun i hi => ?_, ?_, fun p i hp hi => ?_, fun p i hp => ?_⟩
  · rw [rad_54 hn8]; exact bd_n (by omega) (by decide)
  · obtain ⟨q1, q2, q3, q4⟩ := rad_i (ρ := ρ) (c := c) (r := r) (q := q) hn8 hi
    rw [q1, q2, q3, q4]
    by_cases z : i = n
    · rw [if_pos z, if_pos z, if_pos z, if_pos z]
      exact ⟨bd_n hc (by decide), bd_n hr (by decide), bd_n hq (by decide), bd_n (n := 0) (by decide) (by decide)⟩
    · rw [if_neg z, if_neg z, if_neg z, if_neg z]; exact hD.2.1 i hi
  · rw [e24, e52]; exact hD.2.2.1
  · rw [eb p i hp, eb i p hi]
    by_cases z1 : p = n
    · by_cases z2 : i = n
      · rw [if_pos z1, if_pos z2]
      · rw [if_pos z1, if_neg z2]
        cases e : (nat (ρ (16 + i))).testBit p with
        | false => rfl
        | true =>
          have := hD.2.2.2.2 i p hi e
          rw [hn] at this
          omega
    · by_cases z2 : i = n
      · rw [if_neg z1, if_pos z2]
        cases e : (nat (ρ (16 + p))).testBit i with
        | false => rfl
        | true =>
          have := hD.2.2.2.2 p i hp e
          rw [hn] at this
          omega
      · rw [if_neg z1, if_neg z2]; exact hD.2.2.2.1 p i hp hi
  · rw [eb p i hp, rad_54 hn8, nat_n (by omega)]
    by_cases z1 : p = n
    · rw [if_pos z1]; intro z; cases z
    · rw [if_neg z1]
      intro z
      have := hD.2.2.2.2 p i hp z
      rw [hn] at this
      omega
/-- by threes: the row, how many came, how many gaps -/
def rst (b : Nat → Nat) : Nat → (Nat → Int32) × Nat × Nat → (Nat → Int32) × Nat × Nat
  | 0, q => q
  | k + 1, q => if nat ((rst b k q).1 54) < 8 ∧ b (3 * k) < 25 ∧ b (3 * k + 1) < 5 ∧ b (3 * k + 2) < 4 then (rad (rst b k q).1 (nat ((rst b k q).1 54)) (b (3 * k)) (b (3 * k + 1)) (b (3 * k + 2)), (rst b k q).2.1 + 1, (rst b k q).2.2) else ((rst b k q).1, (rst b k q).2.1, (rst b k q).2.2 + 1)
theorem rst_D {b : Nat → Nat} {q : (Nat → Int32) × Nat × Nat} (hD : DW q.1) : ∀ k, DW (rst b k q).1 ∧ (∀ j, 33 ≤ j ∧ j ≠ 54 ∨ j = 24 → (rst b k q).1 j = q.1 j) ∧ nat (q.1 54) ≤ nat ((rst b k q).1 54)
  | 0 => ⟨hD, fun _ _ => rfl, Nat.le_refl _⟩
  | k + 1 => by
    obtain ⟨h1, h2, h3⟩ := rst_D (b := b) hD k
    unfold rst
    by_cases z : nat ((rst b k q).1 54) < 8 ∧ b (3 * k) < 25 ∧ b (3 * k + 1) < 5 ∧ b (3 * k + 2) < 4
    · rw [if_pos z]
      refine ⟨rad_D h1 rfl z.1 z.2.1 z.2.2.1 z.2.2.2, fun j hj => ?_, ?_⟩
      · show rad _ _ _ _ _ j = _
        rw [rad_ne z.1 hj]; exact h2 j hj
      · show _ ≤ nat (rad _ _ _ _ _ 54)
        rw [rad_54 z.1, nat_n (by omega)]
        omega
    · rw [if_neg z]; exact ⟨h1, h2, h3⟩
theorem VD_add {μ : hm_M} {ρ : Nat → Int32} {n c r q : Nat} (h : VD μ 65 ρ) (hD : DW ρ) (hn : nat (ρ 54) = n) (hn8 : n < 8) : ∃ x μ1, f_X8_addPerson 65 (Int32.ofNat c) (Int32.ofNat r) (Int32.ofNat q) μ = some (x, μ1) ∧ VD μ1 65 (rad ρ n c r q) ∧ μ1.2 = μ.2 ∧ ∀ a j, ¬ (a = 65 ∧ j = 0) → ¬ (66 ≤ a ∧ a ≤ 69) → μ1.1 a j = μ.1 a j := by
  have e0 : μ.1 65 0 = Int32.ofNat n := by rw [h.1, hD.1.1, hn]
  refine ⟨Int32.ofNat (n + 1) - 1, hm_wI (hm_wI (hm_wI (hm_wI (hm_wI μ 66 n (Int32.ofNat c)) 67 n (Int32.ofNat r)) 68 n (Int32.ofNat q)) 69 n 0) 65 0 (Int32.ofNat (n + 1)), ?_, ⟨?_, fun i hi => ?_, fun i hi => ?_, ?_, ?_⟩, rfl, fun a j h1 h2 => ?_⟩
  · unfold f_X8_addPerson
    rw [e0, if_pos (by rw [show (8 : Int32) = Int32.ofNat 8 from rfl, n_lt (by omega) (by omega)]; exact hn8), sd_n hn8 (by decide), Option.bind_some, wI_ne (by omega), e0, sd_n hn8 (by decide), Option.bind_some, wI_ne (by omega), wI_ne (by omega), e0, sd_n hn8 (by decide), Option.bind_some, wI_ne (by omega), wI_ne (by omega), wI_ne (by omega), e0, sd_n hn8 (by decide), Option.bind_some, wI_ne (by omega), wI_ne (by omega), wI_ne (by omega), wI_ne (by omega), e0, show Int32.ofNat n + 1 = Int32.ofNat (n + 1) from n_add n 1, pI_some, Option.bind_some, wI_at]
  · rw [wI_at, rad_54 hn8]
  · rw [(rad_i hn8 hi).2.2.1, wI_ne (by omega)]
    by_cases z : i = n
    · subst z; rw [wI_at, if_pos rfl]
    · rw [wI_ne (by omega), wI_ne (by omega), wI_ne (by omega), wI_ne (by omega), if_neg z]; exact h.2.1 i hi
  · obtain ⟨q1, q2, q3, q4⟩ := rad_i (ρ := ρ) (c := c) (r := r) (q := q) hn8 hi
    rw [q1, q2, q4]
    obtain ⟨w1, w2, w3⟩ := h.2.2.1 i hi
    by_cases z : i = n
    · subst z
      rw [if_pos rfl, if_pos rfl, if_pos rfl]
      refine ⟨?_, ?_, ?_⟩
      · rw [wI_ne (by omega), wI_ne (by omega), wI_ne (by omega), wI_ne (by omega), wI_at]
      · rw [wI_ne (by omega), wI_ne (by omega), wI_ne (by omega), wI_at]
      · rw [wI_ne (by omega), wI_ne (by omega), wI_at]
    · rw [if_neg z, if_neg z, if_neg z]
      refine ⟨?_, ?_, ?_⟩
      · rw [wI_ne (by omega), wI_ne (by omega), wI_ne (by omega), wI_ne (by omega), wI_ne (by omega)]; exact w1
      · rw [wI_ne (by omega), wI_ne (by omega), wI_ne (by omega), wI_ne (by omega), wI_ne (by omega)]; exact w2
      · rw [wI_ne (by omega), wI_ne (by omega), wI_ne (by omega), wI_ne (by omega), wI_ne (by omega)]; exact w3
  · rw [rad_ne hn8 (by omega), wI_ne (by omega), wI_ne (by omega), wI_ne (by omega), wI_ne (by omega), wI_ne (by omega)]; exact h.2.2.2.1
  · rw [rad_ne hn8 (by omega), wI_ne (by omega), wI_ne (by omega), wI_ne (by omega), wI_ne (by omega), wI_ne (by omega)]; exact h.2.2.2.2
  · rw [wI_ne (by omega), wI_ne (by omega), wI_ne (by omega), wI_ne (by omega), wI_ne (by omega)]
theorem v_adds {m : hm_M} {ρ : Nat → Int32} {n c r q : Nat} (hρ : m.1 181 = ρ) (hD : DW ρ) (hn : nat (ρ 54) = n) (hn8 : n < 8) : ∃ m1, f_X10_adds (Int32.ofNat c) (Int32.ofNat r) (Int32.ofNat q) m = some m1 ∧ m1.1 181 = rad ρ n c r q ∧ m1.2 = m.2 ∧ ∀ a j, a ≠ 181 → m1.1 a j = m.1 a j := by
  have e0 : m.1 181 54 = Int32.ofNat n := by rw [hρ, hD.1.1, hn]
  have z0 : ∀ k : Int32, (0 : Int32) + k = k := Int32.zero_add
  refine ⟨hm_wI (hm_wI (hm_wI (hm_wI (hm_wI m 181 n (Int32.ofNat c)) 181 (8 + n) (Int32.ofNat r)) 181 (16 + n) 0) 181 (25 + n) (Int32.ofNat q)) 181 54 (Int32.ofNat (n + 1)), ?_, funext fun k => ?_, rfl, fun a j h => ?_⟩
  · unfold f_X10_adds
    rw [v_many e0, Option.bind_some, z0, sd_n (by omega) (by decide), Option.bind_some, show (8 : Int32) + Int32.ofNat n = Int32.ofNat (8 + n) from n_add 8 n, sd_n (by omega) (by decide), Option.bind_some, show (16 : Int32) + Int32.ofNat n = Int32.ofNat (16 + n) from n_add 16 n, sd_n (by omega) (by decide), Option.bind_some, show (25 : Int32) + Int32.ofNat n = Int32.ofNat (25 + n) from n_add 25 n, sd_n (by omega) (by decide), Option.bind_some, show (54 : Int32) = Int32.ofNat 54 from rfl, ld_n (by decide) (by decide), Option.bind_some, wI_ne (by omega), wI_ne (by omega), wI_ne (by omega), wI_ne (by omega), e0, show Int32.ofNat n + 1 = Int32.ofNat (n + 1) from n_add n 1, sd_n (by decide) (by decide), Option.bind_some]
  · unfold rad
    by_cases z5 : k = 54
    · subst z5
      rw [wI_at, if_neg (by omega), if_neg (by omega), if_neg (by omega), if_neg (by omega), if_pos rfl]
    · rw [wI_ne (by omega)]
      by_cases z4 : k = 25 + n
      · subst z4
        rw [wI_at, if_neg (by omega), if_neg (by omega), if_neg (by omega), if_pos rfl]
      · rw [wI_ne (by omega)]
        by_cases z3 : k = 16 + n
        · subst z3
          rw [wI_at, if_neg (by omega), if_neg (by omega), if_pos rfl]
        · rw [wI_ne (by omega)]
          by_cases z2 : k = 8 + n
          · subst z2
            rw [wI_at, if_neg (by omega), if_pos rfl]
          · rw [wI_ne (by omega)]
            by_cases z1 : k = n
            · subst z1
              rw [wI_at, if_pos rfl]
            · rw [wI_ne (by omega), if_neg z1, if_neg z2, if_neg z3, if_neg z4, if_neg z5, hρ]
  · rw [wI_ne (by omega), wI_ne (by omega), wI_ne (by omega), wI_ne (by omega), wI_ne (by omega)]
theorem byt_c : ∀ b, b < 256 → (0 ≤ (byt b).toInt ∧ (byt b).toInt < 25 ↔ b < 25) ∧ (0 ≤ (byt b).toInt ∧ (byt b).toInt < 5 ↔ b < 5) ∧ (0 ≤ (byt b).toInt ∧ (byt b).toInt < 4 ↔ b < 4) ∧ (b < 25 → byt b = Int32.ofNat b) := by decide +kernel
theorem VR_add {μ μ2 : hm_M} {ρ ρ1 : Nat → Int32} (h : VR μ 65 ρ) (hV : VD μ2 65 ρ1) (hD : DW ρ1) (e : ∀ k, 33 ≤ k ∧ k ≠ 54 → ρ1 k = ρ k) (h54 : nat (ρ 54) ≤ nat (ρ1 54)) (h2 : μ2.2.2 = μ.2.2) (f : ∀ a j, (a = 65 ∧ j ≠ 0) ∨ (a = 70 ∧ j ≠ 0) ∨ (72 ≤ a ∧ a ≤ 74) ∨ 205 ≤ a → μ2.1 a j = μ.1 a j) : VR μ2 65 ρ1 := by
  obtain ⟨⟨b1, b2, b3, b4, b5, b6, b7⟩, b8, b9, c1, c2, c3, ⟨c4, c5⟩, c6, c7⟩ := h
  have l5 := b5.2
  have l4 := b4.2
  refine ⟨⟨hD.1, fun i hi => hD.2.1 i hi, ⟨hD.2.2.1.1, ?_, hD.2.2.1.2, ?_⟩, ?_, ?_, hD.2.2.2, ?_⟩, ?_, ?_, hV.1, fun i hi => ⟨(hV.2.2.1 i hi).1, (hV.2.2.1 i hi).2.1, (hV.2.2.1 i hi).2.2, hV.2.1 i hi⟩, ⟨hV.2.2.2.1, ?_, hV.2.2.2.2, ?_⟩, ⟨?_, ?_⟩, ?_, ?_⟩
  · rw [e 51 (by omega)]; exact b3.2.1
  · rw [e 53 (by omega)]; exact b3.2.2.2
  · rw [e 55 (by omega)]; exact b4
  · rw [e 56 (by omega)]; exact b5
  · exact rws_same b7 (by rw [e 55 (by omega)]) (by omega) h54 (fun k _ _ => e k (by omega))
  · unfold rw_force at b8 ⊢
    rw [e 57 (by omega), e 56 (by omega)]; exact b8
  · rw [e 57 (by omega), f 65 8 (by omega)]; exact b9
  · rw [e 51 (by omega), f _ _ (by omega)]; exact c3.2.1
  · rw [e 53 (by omega), f _ _ (by omega)]; exact c3.2.2.2
  · rw [e 55 (by omega), f _ _ (by omega)]; exact c4
  · rw [e 56 (by omega), f _ _ (by omega)]; exact c5
  · exact seen_same c6 (by rw [e 55 (by omega)]) (by omega) (fun k _ _ => e k (by omega)) (fun j _ => ⟨f _ _ (by omega), f _ _ (by omega), f _ _ (by omega)⟩)
  · exact laws_same c7 (by rw [e 56 (by omega)]) (fun k hk => e k (by omega)) (fun t _ _ => by rw [h2]) (by omega) (fun a j ha => f a j (by omega)) (congrArg (fun z => z.2.2.2) h2)
theorem pu_row {μ : hm_M} (h : PP μ) : ∃ (r : Int32) (μ1 μ2 : hm_M), f_X9_row μ = some (r, μ1) ∧ f_X10_row μ1 = some (r, μ2) ∧ PP μ2 := by
  obtain ⟨a1, a2, a3, a4, a5, a6, a7⟩ := id h
  have hV : VD μ 65 (μ.1 181) := a1.2.2.2.d
  have hD := a1.1.d
  obtain ⟨t1, t2, t3⟩ := id a5
  have tl := t1.2
  have et := t1.1
  generalize hT : nat (μ.1 64 12) = T at tl et
  have et2 : μ.1 179 13 = Int32.ofNat T := by rw [← t2]; exact et
  have rk6 : rk (-6) := Or.inr (Or.inr (Or.inr (Or.inr rfl)))
  have b8 : ∀ i, i < 400 → nat (μ.1 156 i) < 256 := fun i hi => (t3 i hi).1.2
  by_cases z : T = 0
  · subst z
    have P3 : PP (hm_wI (hm_wI μ 64 12 0) 179 13 0) := ⟨PV.same a1 rfl (fun a j z => by unfold dV at z; first | rfl | (simp (disch := omega) only [wI_ne, cpm_ne, wR_1])), a2.same rfl (fun a j z => by unfold dI at z; first | rfl | (simp (disch := omega) only [wI_ne, cpm_ne, wR_1])), a3.same (fun a j z => by unfold dD at z; first | rfl | (simp (disch := omega) only [wI_ne, cpm_ne, wR_1])), a4.same (fun a j z => by unfold dS at z; first | rfl | (simp (disch := omega) only [wI_ne, cpm_ne, wR_1])), ⟨by rw [wI_ne (by omega), wI_at]; exact bd_n (n := 0) (by decide) (by decide), by rw [wI_ne (by omega), wI_at, wI_at], fun i hi => by rw [wI_ne (by omega), wI_ne (by omega), wI_ne (by omega), wI_ne (by omega)]; exact t3 i hi⟩, a6.same (fun a j z => by unfold dM at z; first | rfl | (simp (disch := omega) only [wI_ne, cpm_ne, wR_1])), a7.same (fun j => by first | rfl | (simp (disch := omega) only [wI_ne, cpm_ne, wR_1]))⟩
    refine ⟨-6, rf9 (-6) (hm_wI μ 64 12 0), rf10 (-6) (hm_wI (rf9 (-6) (hm_wI μ 64 12 0)) 179 13 0), ?_, ?_, ?_⟩
    · unfold f_X9_row f_X9_emptiedTape
      rw [pI_some, Option.bind_some, b2_some, et, if_pos (show Int32.ofNat 0 = 0 from rfl), v_rf9 rk6]
      rfl
    · unfold f_X10_row
      rw [pI_some, Option.bind_some, rf9_ne (by omega), wI_ne (by omega), et2, if_pos (show Int32.ofNat 0 = 0 from rfl), v_rf10 rk6]
      rfl
    · rw [rf9_13]
      exact rf_PP rk6 P3
  · have nz : ¬ Int32.ofNat T = 0 := by rw [show (0 : Int32) = Int32.ofNat 0 from rfl, n_eq (by omega) (by omega)]; exact z
    generalize hB : (fun i => nat (μ.1 156 i)) = b at b8
    have hb : ∀ i, i < 400 → b i < 256 := fun i hi => by rw [← hB]; exact b8 i hi
    have b9 : ∀ i, i < 400 → μ.1 156 i = Int32.ofNat (b i) := fun i hi => by rw [← hB]; exact (t3 i hi).1.1
    have b10 : ∀ i, i < 400 → μ.1 186 i = byt (b i) := fun i hi => by rw [← hB]; exact (t3 i hi).2
    obtain ⟨Q, R, hq, hr, hT2⟩ : ∃ Q R, R < 3 ∧ T = 3 * Q + R ∧ Q ≤ 133 := ⟨T / 3, T % 3, by omega, by omega, by omega⟩
    -- the component
    have s9 : ∃ m, (VD m 65 (rst b Q (μ.1 181, 0, 0)).1 ∧ m.2 = μ.2 ∧ ∀ a j, ¬ (a = 65 ∧ j = 0) → ¬ (66 ≤ a ∧ a ≤ 69) → ¬ (a = 64 ∧ j = 12) → m.1 a j = μ.1 a j) ∧ m.1 64 12 = 0 ∧ f_X9_row μ = some (Int32.ofNat (rst b Q (μ.1 181, 0, 0)).2.1, hm_wI (hm_wI (hm_wI m 64 15 (Int32.ofNat ((rst b Q (μ.1 181, 0, 0)).2.2 + (if R = 0 then 0 else 1)))) 87 2 0) 64 16 0) := by
      unfold f_X9_row f_X9_emptiedTape
      rw [pI_some, Option.bind_some, b2_some, et, if_neg nz]
      suffices H : ∀ E, ∃ x y w m, (x = Int32.ofNat (rst b Q (μ.1 181, 0, 0)).2.1 ∧ y = Int32.ofNat (rst b Q (μ.1 181, 0, 0)).2.2 ∧ w = Int32.ofNat (3 * Q) ∧ (VD m 65 (rst b Q (μ.1 181, 0, 0)).1 ∧ m.2 = μ.2 ∧ ∀ a j, ¬ (a = 65 ∧ j = 0) → ¬ (66 ≤ a ∧ a ≤ 69) → ¬ (a = 64 ∧ j = 12) → m.1 a j = μ.1 a j) ∧ m.1 64 12 = 0) ∧ f_X9_row_L23 (Int32.ofNat T) E hm_fu 0 0 0 (hm_wI μ 64 12 0) = f_X9_row_L23 (Int32.ofNat T) E (hm_fu - Q) x y w m by
        obtain ⟨x, y, w, m, ⟨rfl, rfl, rfl, g, g4⟩, e⟩ := H (fun z13_2 z13_3 μz13 => Option.bind (hm_pI μz13 64 15 z13_3) fun μ14 => Option.bind (f_X7_clear 87 μ14) fun μ16 => hm_b2 (f_X9_granted z13_2 μ16) fun x17 μ18 => some (x17, μ18))
        refine ⟨m, g, g4, e.trans ?_⟩
        obtain ⟨F, hF⟩ : ∃ F, hm_fu - Q = F + 2 := ⟨hm_fu - Q - 2, by have : hm_fu = 1000000 := rfl; omega⟩
        rw [hF]
        by_cases r0 : R = 0
        · rw [f_X9_row_L23, if_pos (by rw [n_le (by omega) (by omega)]; omega), if_pos r0, pI_some, Option.bind_some, v_cl7, Option.bind_some, v_gr9]
          rfl
        · have e2 : Int32.ofNat (3 * Q) + 2 = Int32.ofNat (3 * Q + 2) := n_add _ 2
          have e3 : Int32.ofNat (3 * Q) + 3 = Int32.ofNat (3 * Q + 3) := n_add _ 3
          rw [f_X9_row_L23, if_neg (by rw [n_le (by omega) (by omega)]; omega), e2, if_pos (by rw [n_le (by omega) (by omega)]; omega)]
          unfold f_X9_row_J119 f_X9_row_J122
          rw [e3, f_X9_row_L23, if_pos (by rw [n_le (by omega) (by omega)]; omega), if_neg r0, pI_some, Option.bind_some, v_cl7, Option.bind_some, v_gr9, show Int32.ofNat (rst b Q (μ.1 181, 0, 0)).2.2 + 1 = Int32.ofNat ((rst b Q (μ.1 181, 0, 0)).2.2 + 1) from n_add _ 1]
          rfl
      intro E
      refine lr4 (L := f_X9_row_L23 (Int32.ofNat T) E) (fun k x y w m => x = Int32.ofNat (rst b k (μ.1 181, 0, 0)).2.1 ∧ y = Int32.ofNat (rst b k (μ.1 181, 0, 0)).2.2 ∧ w = Int32.ofNat (3 * k) ∧ (VD m 65 (rst b k (μ.1 181, 0, 0)).1 ∧ m.2 = μ.2 ∧ ∀ a j, ¬ (a = 65 ∧ j = 0) → ¬ (66 ≤ a ∧ a ≤ 69) → ¬ (a = 64 ∧ j = 12) → m.1 a j = μ.1 a j) ∧ m.1 64 12 = 0) Q (fun k x y w m hk hI => ?_) (by have : hm_fu = 1000000 := rfl; omega) ⟨rfl, rfl, rfl, ⟨⟨by rw [wI_ne (by omega)]; exact hV.1, fun i hi => by rw [wI_ne (by omega)]; exact hV.2.1 i hi, fun i hi => by rw [wI_ne (by omega), wI_ne (by omega), wI_ne (by omega)]; exact hV.2.2.1 i hi, by rw [wI_ne (by omega)]; exact hV.2.2.2.1, by rw [wI_ne (by omega)]; exact hV.2.2.2.2⟩, rfl, fun a j _ _ h3 => wI_ne h3⟩, wI_at _ _ _ _⟩
      · obtain ⟨rfl, rfl, rfl, ⟨g1, g2, g3⟩, g4⟩ := hI
        obtain ⟨d1, d2, d3⟩ := rst_D (b := b) (q := (μ.1 181, 0, 0)) hD k
        have e0 : m.1 65 0 = Int32.ofNat (nat ((rst b k (μ.1 181, 0, 0)).1 54)) := by rw [g1.1]; exact d1.1.1
        have d9 := d1.1.2
        have ld : ∀ i, i < 400 → hm_ld m 156 400 (Int32.ofNat i) = some (Int32.ofNat (b i)) := fun i hi => by
          rw [ld_n hi (by decide), g3 _ _ (by omega) (by omega) (by omega), b9 i hi]
        have e1 : Int32.ofNat (3 * k) + 1 = Int32.ofNat (3 * k + 1) := n_add _ 1
        have e2 : Int32.ofNat (3 * k) + 2 = Int32.ofNat (3 * k + 2) := n_add _ 2
        have e3 : Int32.ofNat (3 * k) + 3 = Int32.ofNat (3 * (k + 1)) := n_add _ 3
        have k0 := hb (3 * k) (by omega)
        have k1 := hb (3 * k + 1) (by omega)
        have k2 := hb (3 * k + 2) (by omega)
        have head : ∀ F E, f_X9_row_L23 (Int32.ofNat T) E (F + 1) (Int32.ofNat (rst b k (μ.1 181, 0, 0)).2.1) (Int32.ofNat (rst b k (μ.1 181, 0, 0)).2.2) (Int32.ofNat (3 * k)) m = (if nat ((rst b k (μ.1 181, 0, 0)).1 54) < 8 ∧ b (3 * k) < 25 ∧ b (3 * k + 1) < 5 ∧ b (3 * k + 2) < 4 then hm_b2 (f_X8_addPerson 65 (Int32.ofNat (b (3 * k))) (Int32.ofNat (b (3 * k + 1))) (Int32.ofNat (b (3 * k + 2))) m) fun x11 μ12 => f_X9_row_J122 (Int32.ofNat T) (f_X9_row_L23 (Int32.ofNat T) E F) E (Int32.ofNat (rst b k (μ.1 181, 0, 0)).2.1 + 1) (Int32.ofNat (rst b k (μ.1 181, 0, 0)).2.2) (Int32.ofNat (3 * k)) μ12 else f_X9_row_J119 (Int32.ofNat T) (f_X9_row_L23 (Int32.ofNat T) E F) E (Int32.ofNat (rst b k (μ.1 181, 0, 0)).2.1) (Int32.ofNat (rst b k (μ.1 181, 0, 0)).2.2) (Int32.ofNat (3 * k)) m) := by
          intro F E
          rw [f_X9_row_L23, if_neg (by rw [n_le (by omega) (by omega)]; omega), e1, e2, if_neg (by rw [n_le (by omega) (by omega)]; omega), e0]
          by_cases y1 : nat ((rst b k (μ.1 181, 0, 0)).1 54) < 8
          · rw [if_neg (by rw [show (8 : Int32) = Int32.ofNat 8 from rfl, n_le (by omega) (by omega)]; omega), ld _ (by omega), ld _ (by omega), ld _ (by omega), Option.bind_some, Option.bind_some, Option.bind_some, v_can9, Option.bind_some, n_toInt (by omega), n_toInt (by omega), n_toInt (by omega)]
            by_cases y2 : b (3 * k) < 25 ∧ b (3 * k + 1) < 5 ∧ b (3 * k + 2) < 4
            · rw [if_pos (by omega : (0 ≤ (b (3 * k) : Int) ∧ (b (3 * k) : Int) < 25) ∧ (0 ≤ (b (3 * k + 1) : Int) ∧ (b (3 * k + 1) : Int) < 5) ∧ 0 ≤ (b (3 * k + 2) : Int) ∧ (b (3 * k + 2) : Int) < 4), if_neg (by decide), if_pos ⟨y1, y2⟩]
              rfl
            · rw [if_neg (by omega : ¬ ((0 ≤ (b (3 * k) : Int) ∧ (b (3 * k) : Int) < 25) ∧ (0 ≤ (b (3 * k + 1) : Int) ∧ (b (3 * k + 1) : Int) < 5) ∧ 0 ≤ (b (3 * k + 2) : Int) ∧ (b (3 * k + 2) : Int) < 4)), if_pos rfl, if_neg fun q => y2 q.2]
          · rw [if_pos (by rw [show (8 : Int32) = Int32.ofNat 8 from rfl, n_le (by omega) (by omega)]; omega), if_neg fun q => y1 q.1]
        by_cases y : nat ((rst b k (μ.1 181, 0, 0)).1 54) < 8 ∧ b (3 * k) < 25 ∧ b (3 * k + 1) < 5 ∧ b (3 * k + 2) < 4
        · have st : rst b (k + 1) (μ.1 181, 0, 0) = (rad (rst b k (μ.1 181, 0, 0)).1 (nat ((rst b k (μ.1 181, 0, 0)).1 54)) (b (3 * k)) (b (3 * k + 1)) (b (3 * k + 2)), (rst b k (μ.1 181, 0, 0)).2.1 + 1, (rst b k (μ.1 181, 0, 0)).2.2) := if_pos y
          obtain ⟨x11, m2, c1, c2, c3, c4⟩ := VD_add (c := b (3 * k)) (r := b (3 * k + 1)) (q := b (3 * k + 2)) g1 d1 rfl y.1
          refine ⟨_, _, _, m2, ⟨rfl, rfl, rfl, ⟨by rw [st]; exact c2, c3.trans g2, fun a j h1 h2 h3 => (c4 a j h1 h2).trans (g3 a j h1 h2 h3)⟩, by rw [c4 _ _ (by omega) (by omega)]; exact g4⟩, fun F => ?_⟩
          rw [head, if_pos y, c1, b2_some, st]
          unfold f_X9_row_J122
          rw [e3, show Int32.ofNat (rst b k (μ.1 181, 0, 0)).2.1 + 1 = Int32.ofNat ((rst b k (μ.1 181, 0, 0)).2.1 + 1) from n_add _ 1]
        · have st : rst b (k + 1) (μ.1 181, 0, 0) = ((rst b k (μ.1 181, 0, 0)).1, (rst b k (μ.1 181, 0, 0)).2.1, (rst b k (μ.1 181, 0, 0)).2.2 + 1) := if_neg y
          refine ⟨_, _, _, m, ⟨rfl, rfl, rfl, ⟨by rw [st]; exact g1, g2, g3⟩, g4⟩, fun F => ?_⟩
          rw [head, if_neg y, st]
          unfold f_X9_row_J119 f_X9_row_J122
          rw [e3, show Int32.ofNat (rst b k (μ.1 181, 0, 0)).2.2 + 1 = Int32.ofNat ((rst b k (μ.1 181, 0, 0)).2.2 + 1) from n_add _ 1]
    obtain ⟨m, ⟨g1, g2, g3⟩, g4, c9⟩ := s9
    generalize hm9 : hm_wI (hm_wI (hm_wI m 64 15 (Int32.ofNat ((rst b Q (μ.1 181, 0, 0)).2.2 + (if R = 0 then 0 else 1)))) 87 2 0) 64 16 0 = m9 at c9
    obtain ⟨xD, dE, dN⟩ := rst_D (b := b) (q := (μ.1 181, 0, 0)) hD Q
    have f9 : ∀ a j, ¬ (a = 65 ∧ j = 0) → ¬ (66 ≤ a ∧ a ≤ 69) → ¬ (a = 64 ∧ (j = 12 ∨ j = 15 ∨ j = 16)) → ¬ (a = 87 ∧ j = 2) → m9.1 a j = μ.1 a j := fun a j h1 h2 h3 h4 => by
      rw [← hm9, wI_ne (by omega), wI_ne (by omega), wI_ne (by omega)]
      exact g3 a j h1 h2 (by omega)
    have k9 : m9.1 181 = μ.1 181 := funext fun j => f9 181 j (by omega) (by omega) (by omega) (by omega)
    -- the reference
    have s10 : ∃ m2, (m2.1 181 = (rst b Q (μ.1 181, 0, 0)).1 ∧ m2.2 = m9.2 ∧ ∀ a j, a ≠ 181 → ¬ (a = 179 ∧ (j = 13 ∨ j = 6)) → m2.1 a j = m9.1 a j) ∧ m2.1 179 13 = 0 ∧ m2.1 179 6 = Int32.ofNat ((rst b Q (μ.1 181, 0, 0)).2.2 + (if R = 0 then 0 else 1)) ∧ f_X10_row m9 = some (Int32.ofNat (rst b Q (μ.1 181, 0, 0)).2.1, hm_wI (hm_wI m2 179 33 0) 179 0 0) := by
      have e13 : m9.1 179 13 = Int32.ofNat T := by rw [f9 _ _ (by omega) (by omega) (by omega) (by omega)]; exact et2
      have start : f_X10_row m9 = f_X10_row_L40 (Int32.ofNat T) (fun z15_2 μz15 => hm_b2 (f_X10_settled z15_2 μz15) fun x16 μ17 => some (x16, μ17)) hm_fu (Int32.ofNat 0) (Int32.ofNat 0) (hm_wI (hm_wI m9 179 13 0) 179 6 (Int32.ofNat (0 + (if R = 0 then 0 else 1)))) := by
        unfold f_X10_row f_X10_row_J35
        rw [e13, pI_some, Option.bind_some, if_neg nz, show (3 : Int32) = Int32.ofNat 3 from rfl, n_rem (by omega) (by decide)]
        by_cases r0 : R = 0
        · rw [if_pos (by rw [show T % 3 = 0 by omega]; rfl), if_pos r0]
          rfl
        · rw [if_neg (by rw [show (0 : Int32) = Int32.ofNat 0 from rfl, n_eq (by omega) (by omega)]; omega), if_neg r0]
          rfl
      rw [start]
      have i1 : (hm_wI (hm_wI m9 179 13 0) 179 6 (Int32.ofNat (0 + (if R = 0 then 0 else 1)))).1 181 = μ.1 181 := (funext fun j => by rw [wI_ne (by omega), wI_ne (by omega)]).trans k9
      have i2 : (hm_wI (hm_wI m9 179 13 0) 179 6 (Int32.ofNat (0 + (if R = 0 then 0 else 1)))).2 = m9.2 := rfl
      have i3 : ∀ a j, a ≠ 181 → ¬ (a = 179 ∧ (j = 13 ∨ j = 6)) → (hm_wI (hm_wI m9 179 13 0) 179 6 (Int32.ofNat (0 + (if R = 0 then 0 else 1)))).1 a j = m9.1 a j := fun a j h1 h2 => by rw [wI_ne (by omega), wI_ne (by omega)]
      have i4 : (hm_wI (hm_wI m9 179 13 0) 179 6 (Int32.ofNat (0 + (if R = 0 then 0 else 1)))).1 179 13 = 0 := by rw [wI_ne (by omega), wI_at]
      have i5 : (hm_wI (hm_wI m9 179 13 0) 179 6 (Int32.ofNat (0 + (if R = 0 then 0 else 1)))).1 179 6 = Int32.ofNat (0 + (if R = 0 then 0 else 1)) := wI_at _ _ _ _
      generalize hm_wI (hm_wI m9 179 13 0) 179 6 (Int32.ofNat (0 + (if R = 0 then 0 else 1))) = mi at i1 i2 i3 i4 i5
      refine lo3 (L := f_X10_row_L40 (Int32.ofNat T) _) (fun k x w m2 => x = Int32.ofNat (rst b k (μ.1 181, 0, 0)).2.1 ∧ w = Int32.ofNat (3 * k) ∧ (m2.1 181 = (rst b k (μ.1 181, 0, 0)).1 ∧ m2.2 = m9.2 ∧ ∀ a j, a ≠ 181 → ¬ (a = 179 ∧ (j = 13 ∨ j = 6)) → m2.1 a j = m9.1 a j) ∧ m2.1 179 13 = 0 ∧ m2.1 179 6 = Int32.ofNat ((rst b k (μ.1 181, 0, 0)).2.2 + (if R = 0 then 0 else 1))) (fun o => ∃ m2, (m2.1 181 = (rst b Q (μ.1 181, 0, 0)).1 ∧ m2.2 = m9.2 ∧ ∀ a j, a ≠ 181 → ¬ (a = 179 ∧ (j = 13 ∨ j = 6)) → m2.1 a j = m9.1 a j) ∧ m2.1 179 13 = 0 ∧ m2.1 179 6 = Int32.ofNat ((rst b Q (μ.1 181, 0, 0)).2.2 + (if R = 0 then 0 else 1)) ∧ o = some (Int32.ofNat (rst b Q (μ.1 181, 0, 0)).2.1, hm_wI (hm_wI m2 179 33 0) 179 0 0)) Q (fun k x w m2 hk hI => Or.inl ?_) (fun x w m2 hI F => ?_) (fu_lt (by omega)) ⟨rfl, rfl, ⟨i1, i2, i3⟩, i4, i5⟩
      · obtain ⟨rfl, rfl, ⟨u1, u2, u3⟩, u4, u5⟩ := hI
        obtain ⟨d1, d2, d3⟩ := rst_D (b := b) (q := (μ.1 181, 0, 0)) hD k
        have d9 := d1.1.2
        have e0 : f_X10_many m2 = some (Int32.ofNat (nat ((rst b k (μ.1 181, 0, 0)).1 54))) := v_many (by rw [u1]; exact d1.1.1)
        have ld : ∀ i, i < 400 → hm_ld m2 186 400 (Int32.ofNat i) = some (byt (b i)) := fun i hi => by
          rw [ld_n hi (by decide), u3 _ _ (by omega) (by omega), f9 _ _ (by omega) (by omega) (by omega) (by omega), b10 i hi]
        have e1 : Int32.ofNat (3 * k) + 1 = Int32.ofNat (3 * k + 1) := n_add _ 1
        have e2 : Int32.ofNat (3 * k) + 2 = Int32.ofNat (3 * k + 2) := n_add _ 2
        have e3 : Int32.ofNat (3 * k) + 3 = Int32.ofNat (3 * (k + 1)) := n_add _ 3
        obtain ⟨p1, -, -, p2⟩ := byt_c (b (3 * k)) (hb _ (by omega))
        obtain ⟨-, p3, -, p4⟩ := byt_c (b (3 * k + 1)) (hb _ (by omega))
        obtain ⟨-, -, p5, p6⟩ := byt_c (b (3 * k + 2)) (hb _ (by omega))
        have head : ∀ F E, f_X10_row_L40 (Int32.ofNat T) E (F + 1) (Int32.ofNat (rst b k (μ.1 181, 0, 0)).2.1) (Int32.ofNat (3 * k)) m2 = (if nat ((rst b k (μ.1 181, 0, 0)).1 54) < 8 ∧ b (3 * k) < 25 ∧ b (3 * k + 1) < 5 ∧ b (3 * k + 2) < 4 then f_X10_row_J89 (Int32.ofNat T) (f_X10_row_L40 (Int32.ofNat T) E F) E 1 (Int32.ofNat (rst b k (μ.1 181, 0, 0)).2.1) (Int32.ofNat (3 * k)) m2 else f_X10_row_J88 (Int32.ofNat T) (f_X10_row_L40 (Int32.ofNat T) E F) E (Int32.ofNat (rst b k (μ.1 181, 0, 0)).2.1) (Int32.ofNat (3 * k)) m2) := by
          intro F E
          rw [f_X10_row_L40, e3, if_neg (by rw [n_lt (by omega) (by omega)]; omega), e0, Option.bind_some, e1, e2]
          by_cases y1 : nat ((rst b k (μ.1 181, 0, 0)).1 54) < 8
          · rw [if_neg (by rw [show (8 : Int32) = Int32.ofNat 8 from rfl, n_le (by omega) (by omega)]; omega), ld _ (by omega), ld _ (by omega), ld _ (by omega), Option.bind_some, Option.bind_some, Option.bind_some]
            by_cases y2 : b (3 * k) < 25 ∧ b (3 * k + 1) < 5 ∧ b (3 * k + 2) < 4
            · have vc : f_X10_canBe (byt (b (3 * k))) (byt (b (3 * k + 1))) (byt (b (3 * k + 2))) = some 1 := by rw [v_can10, if_pos ⟨p1.mpr y2.1, p3.mpr y2.2.1, p5.mpr y2.2.2⟩]
              rw [vc, Option.bind_some, if_neg (by decide), if_pos ⟨y1, y2⟩]
            · have vc : f_X10_canBe (byt (b (3 * k))) (byt (b (3 * k + 1))) (byt (b (3 * k + 2))) = some 0 := by rw [v_can10, if_neg (fun q => y2 ⟨p1.mp q.1, p3.mp q.2.1, p5.mp q.2.2⟩)]
              rw [vc, Option.bind_some, if_pos rfl, if_neg fun q => y2 q.2]
          · rw [if_pos (by rw [show (8 : Int32) = Int32.ofNat 8 from rfl, n_le (by omega) (by omega)]; omega), if_neg fun q => y1 q.1]
        by_cases y : nat ((rst b k (μ.1 181, 0, 0)).1 54) < 8 ∧ b (3 * k) < 25 ∧ b (3 * k + 1) < 5 ∧ b (3 * k + 2) < 4
        · have st : rst b (k + 1) (μ.1 181, 0, 0) = (rad (rst b k (μ.1 181, 0, 0)).1 (nat ((rst b k (μ.1 181, 0, 0)).1 54)) (b (3 * k)) (b (3 * k + 1)) (b (3 * k + 2)), (rst b k (μ.1 181, 0, 0)).2.1 + 1, (rst b k (μ.1 181, 0, 0)).2.2) := if_pos y
          obtain ⟨m3, c1, c2, c3, c4⟩ := v_adds (c := b (3 * k)) (r := b (3 * k + 1)) (q := b (3 * k + 2)) u1 d1 rfl y.1
          refine ⟨_, _, hm_wI m3 179 6 (m3.1 179 6 + 0), ⟨rfl, rfl, ⟨(funext fun j => wI_ne (by omega)).trans (by rw [st]; exact c2), c3.trans u2, fun a j h1 h2 => by rw [wI_ne (by omega), c4 a j h1]; exact u3 a j h1 h2⟩, by rw [wI_ne (by omega), c4 _ _ (by omega)]; exact u4, by rw [wI_at, c4 _ _ (by omega), u5, st, Int32.add_zero]⟩, fun F => ?_⟩
          rw [head, if_pos y, st]
          unfold f_X10_row_J89 f_X10_row_J122 f_X10_row_J133 f_X10_row_J150
          rw [if_neg (by decide), e1, e2, ld _ (by omega), ld _ (by omega), ld _ (by omega), Option.bind_some, Option.bind_some, Option.bind_some, p2 y.2.1, p4 (by omega), p6 (by omega), c1, Option.bind_some, if_neg (by decide), if_neg (by decide), pI_some, Option.bind_some, e3, show Int32.ofNat (rst b k (μ.1 181, 0, 0)).2.1 + 1 = Int32.ofNat ((rst b k (μ.1 181, 0, 0)).2.1 + 1) from n_add _ 1]
        · have st : rst b (k + 1) (μ.1 181, 0, 0) = ((rst b k (μ.1 181, 0, 0)).1, (rst b k (μ.1 181, 0, 0)).2.1, (rst b k (μ.1 181, 0, 0)).2.2 + 1) := if_neg y
          refine ⟨_, _, hm_wI m2 179 6 (m2.1 179 6 + 1), ⟨rfl, rfl, ⟨(funext fun j => wI_ne (by omega)).trans (by rw [st]; exact u1), u2, fun a j h1 h2 => by rw [wI_ne (by omega)]; exact u3 a j h1 h2⟩, by rw [wI_ne (by omega)]; exact u4, by rw [wI_at, u5, st, show (1 : Int32) = Int32.ofNat 1 from rfl, n_add, Nat.add_right_comm]⟩, fun F => ?_⟩
          rw [head, if_neg y, st]
          unfold f_X10_row_J88 f_X10_row_J89 f_X10_row_J122 f_X10_row_J133 f_X10_row_J150
          rw [if_pos rfl, if_pos rfl, if_pos rfl, pI_some, Option.bind_some, e3, Int32.add_zero]
      · obtain ⟨rfl, rfl, u, u4, u5⟩ := hI
        refine ⟨m2, u, u4, u5, ?_⟩
        rw [f_X10_row_L40, show Int32.ofNat (3 * Q) + 3 = Int32.ofNat (3 * Q + 3) from n_add _ 3, if_pos (by rw [n_lt (by omega) (by omega)]; omega), v_st10]
        rfl
    obtain ⟨m2, ⟨u1, u2, u3⟩, u4, u5, c10⟩ := s10
    have fall : ∀ a j, ¬ (a = 65 ∧ j = 0) → ¬ (66 ≤ a ∧ a ≤ 69) → ¬ (a = 64 ∧ (j = 12 ∨ j = 15 ∨ j = 16)) → ¬ (a = 87 ∧ j = 2) → a ≠ 181 → ¬ (a = 179 ∧ (j = 13 ∨ j = 6 ∨ j = 33 ∨ j = 0)) → (hm_wI (hm_wI m2 179 33 0) 179 0 0).1 a j = μ.1 a j := fun a j h1 h2 h3 h4 h5 h6 => by
      rw [wI_ne (by omega), wI_ne (by omega), u3 a j h5 (by omega)]
      exact f9 a j h1 h2 h3 h4
    have e22 : (hm_wI (hm_wI m2 179 33 0) 179 0 0).2.2 = μ.2.2 := by
      show m2.2.2 = μ.2.2
      rw [u2, ← hm9]
      show m.2.2 = μ.2.2
      rw [g2]
    have e181 : (hm_wI (hm_wI m2 179 33 0) 179 0 0).1 181 = (rst b Q (μ.1 181, 0, 0)).1 := (funext fun j => by rw [wI_ne (by omega), wI_ne (by omega)]).trans u1
    have l9 : ∀ a j, a < 179 → ¬ (a = 64 ∧ (j = 15 ∨ j = 16)) → ¬ (a = 87 ∧ j = 2) → (hm_wI (hm_wI m2 179 33 0) 179 0 0).1 a j = m.1 a j := fun a j h1 h2 h3 => by
      rw [wI_ne (by omega), wI_ne (by omega), u3 a j (by omega) (by omega), ← hm9, wI_ne (by omega), wI_ne (by omega), wI_ne (by omega)]
    refine ⟨_, m9, _, c9, c10, ?_, a2.same e22 (fun a j z => fall a j (by unfold dI at z; omega) (by unfold dI at z; omega) (by unfold dI at z; omega) (by unfold dI at z; omega) (by unfold dI at z; omega) (by unfold dI at z; omega)), a3.same (fun a j z => fall a j (by unfold dD at z; omega) (by unfold dD at z; omega) (by unfold dD at z; omega) (by unfold dD at z; omega) (by unfold dD at z; omega) (by unfold dD at z; omega)), ?_, ?_, ?_, a7.same (fun j => fall 185 j (by omega) (by omega) (by omega) (by omega) (by omega) (by omega))⟩
    · rw [e181]
      refine VR_add a1 ?_ xD (fun k hk => dE k (Or.inl hk)) dN e22 (fun a j z => fall a j (by omega) (by omega) (by omega) (by omega) (by omega) (by omega))
      exact ⟨by rw [l9 _ _ (by omega) (by omega) (by omega)]; exact g1.1, fun i hi => by rw [l9 _ _ (by omega) (by omega) (by omega)]; exact g1.2.1 i hi, fun i hi => by rw [l9 _ _ (by omega) (by omega) (by omega), l9 _ _ (by omega) (by omega) (by omega), l9 _ _ (by omega) (by omega) (by omega)]; exact g1.2.2.1 i hi, by rw [l9 _ _ (by omega) (by omega) (by omega)]; exact g1.2.2.2.1, by rw [l9 _ _ (by omega) (by omega) (by omega)]; exact g1.2.2.2.2⟩
    · refine ps_clear ?_ ?_ ?_
      · rw [fall _ _ (by omega) (by omega) (by omega) (by omega) (by omega) (by omega)]; exact a4.1
      · rw [wI_ne (by omega), wI_ne (by omega), u3 _ _ (by omega) (by omega), ← hm9, wI_ne (by omega), wI_at]
      · rw [wI_ne (by omega), wI_at]
    · refine ⟨?_, ?_, fun i hi => ?_⟩
      · rw [l9 _ _ (by omega) (by omega) (by omega), g4]; exact bd_n (n := 0) (by decide) (by decide)
      · rw [l9 _ _ (by omega) (by omega) (by omega), g4, wI_ne (by omega), wI_ne (by omega), u4]
      · rw [fall _ _ (by omega) (by omega) (by omega) (by omega) (by omega) (by omega), fall _ _ (by omega) (by omega) (by omega) (by omega) (by omega) (by omega)]; exact t3 i hi
    · obtain ⟨⟨z1, z2, z3, z4⟩, z5⟩ := a6
      refine ⟨⟨?_, ?_, ?_, ?_⟩, ?_⟩
      · rw [fall _ _ (by omega) (by omega) (by omega) (by omega) (by omega) (by omega), fall _ _ (by omega) (by omega) (by omega) (by omega) (by omega) (by omega)]; exact z1
      · rw [fall _ _ (by omega) (by omega) (by omega) (by omega) (by omega) (by omega), fall _ _ (by omega) (by omega) (by omega) (by omega) (by omega) (by omega)]; exact z2
      · rw [wI_ne (by omega), wI_ne (by omega), u3 _ _ (by omega) (by omega), wI_ne (by omega), wI_ne (by omega), u5, ← hm9, wI_ne (by omega), wI_ne (by omega), wI_at]
      · rw [wI_ne (by omega), wI_ne (by omega), u3 _ _ (by omega) (by omega), wI_at, ← hm9, wI_at]
      · have fz : ∀ a j, a = 157 ∨ a = 180 → (hm_wI (hm_wI m2 179 33 0) 179 0 0).1 a j = μ.1 a j := fun a j q => fall a j (by omega) (by omega) (by omega) (by omega) (by omega) (by omega)
        rw [fz _ _ (by omega), fz _ _ (by omega), fz _ _ (by omega), fz _ _ (by omega), fz _ _ (by omega), fz _ _ (by omega), fz _ _ (by omega), fz _ _ (by omega), fz _ _ (by omega), fz _ _ (by omega)]
        exact z5
end
