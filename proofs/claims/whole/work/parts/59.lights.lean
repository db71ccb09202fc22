section LU
variable {K A B C D R : Type}
/-- a loop that goes to its end, whatever comes behind -/
theorem lu1 {L : K → Nat → A → Option R} (I : Nat → A → Prop) (e : K → A → Option R) (N : Nat) (hs : ∀ k a, k < N → I k a → ∃ a', I (k + 1) a' ∧ ∀ κ n, L κ (n + 1) a = L κ n a') (he : ∀ a, I N a → ∀ κ n, L κ (n + 1) a = e κ a) {fuel : Nat} (hf : N < fuel) {a : A} (h0 : I 0 a) : ∃ a', I N a' ∧ ∀ κ, L κ fuel a = e κ a' := by
  have key : ∀ d k fuel a, k + d = N → d < fuel → I k a → ∃ a', I N a' ∧ ∀ κ, L κ fuel a = e κ a' := by
    intro d
    induction d with
    | zero =>
      intro k fuel a hk hf h
      have : k = N := by omega
      subst this
      match fuel, hf with
      | f + 1, _ => exact ⟨a, h, fun κ => he a h κ f⟩
    | succ d ih =>
      intro k fuel a hk hf h
      match fuel, hf with
      | f + 1, hf =>
        obtain ⟨a', h1, h2⟩ := hs k a (by omega) h
        obtain ⟨a2, h3, h4⟩ := ih (k + 1) f a' (by omega) (by omega) h1
        exact ⟨a2, h3, fun κ => (h2 κ f).trans (h4 κ)⟩
  exact key N 0 fuel a (by omega) hf h0
theorem lu2 {L : K → Nat → A → B → Option R} (I : Nat → A → B → Prop) (e : K → A → B → Option R) (N : Nat) (hs : ∀ k a b, k < N → I k a b → ∃ a' b', I (k + 1) a' b' ∧ ∀ κ n, L κ (n + 1) a b = L κ n a' b') (he : ∀ a b, I N a b → ∀ κ n, L κ (n + 1) a b = e κ a b) {fuel : Nat} (hf : N < fuel) {a : A} {b : B} (h0 : I 0 a b) : ∃ a' b', I N a' b' ∧ ∀ κ, L κ fuel a b = e κ a' b' := by
  obtain ⟨⟨a', b'⟩, h1, h2⟩ := lu1 (L := fun κ n (q : A × B) => L κ n q.1 q.2) (fun k q => I k q.1 q.2) (fun κ q => e κ q.1 q.2) N (fun k q hk h => by
    obtain ⟨a', b', h1, h2⟩ := hs k q.1 q.2 hk h
    exact ⟨(a', b'), h1, h2⟩) (fun q h => he q.1 q.2 h) hf (a := (a, b)) h0
  exact ⟨a', b', h1, h2⟩
theorem lu3 {L : K → Nat → A → B → C → Option R} (I : Nat → A → B → C → Prop) (e : K → A → B → C → Option R) (N : Nat) (hs : ∀ k a b c, k < N → I k a b c → ∃ a' b' c', I (k + 1) a' b' c' ∧ ∀ κ n, L κ (n + 1) a b c = L κ n a' b' c') (he : ∀ a b c, I N a b c → ∀ κ n, L κ (n + 1) a b c = e κ a b c) {fuel : Nat} (hf : N < fuel) {a : A} {b : B} {c : C} (h0 : I 0 a b c) : ∃ a' b' c', I N a' b' c' ∧ ∀ κ, L κ fuel a b c = e κ a' b' c' := by
  obtain ⟨⟨a', b', c'⟩, h1, h2⟩ := lu1 (L := fun κ n (q : A × B × C) => L κ n q.1 q.2.1 q.2.2) (fun k q => I k q.1 q.2.1 q.2.2) (fun κ q => e κ q.1 q.2.1 q.2.2) N (fun k q hk h => by
    obtain ⟨a', b', c', h1, h2⟩ := hs k q.1 q.2.1 q.2.2 hk h
    exact ⟨(a', b', c'), h1, h2⟩) (fun q h => he q.1 q.2.1 q.2.2 h) hf (a := (a, b, c)) h0
  exact ⟨a', b', c', h1, h2⟩
theorem lu4 {L : K → Nat → A → B → C → D → Option R} (I : Nat → A → B → C → D → Prop) (e : K → A → B → C → D → Option R) (N : Nat) (hs : ∀ k a b c d, k < N → I k a b c d → ∃ a' b' c' d', I (k + 1) a' b' c' d' ∧ ∀ κ n, L κ (n + 1) a b c d = L κ n a' b' c' d') (he : ∀ a b c d, I N a b c d → ∀ κ n, L κ (n + 1) a b c d = e κ a b c d) {fuel : Nat} (hf : N < fuel) {a : A} {b : B} {c : C} {d : D} (h0 : I 0 a b c d) : ∃ a' b' c' d', I N a' b' c' d' ∧ ∀ κ, L κ fuel a b c d = e κ a' b' c' d' := by
  obtain ⟨⟨a', b', c', d'⟩, h1, h2⟩ := lu1 (L := fun κ n (q : A × B × C × D) => L κ n q.1 q.2.1 q.2.2.1 q.2.2.2) (fun k q => I k q.1 q.2.1 q.2.2.1 q.2.2.2) (fun κ q => e κ q.1 q.2.1 q.2.2.1 q.2.2.2) N (fun k q hk h => by
    obtain ⟨a', b', c', d', h1, h2⟩ := hs k q.1 q.2.1 q.2.2.1 q.2.2.2 hk h
    exact ⟨(a', b', c', d'), h1, h2⟩) (fun q h => he q.1 q.2.1 q.2.2.1 q.2.2.2 h) hf (a := (a, b, c, d)) h0
  exact ⟨a', b', c', d', h1, h2⟩
end LU
section
/-! asks; what is lost in all; whether it lights. -/
theorem pu_asks (v1 v2 v3 : Int32) {μ : hm_M} {ν : hm_N} (hL : hm_LL ν μ) (h : PP μ) : ∃ (r : Int32) (μ1 μ2 : hm_M), f_X9_asks v1 v2 v3 μ = some (r, μ1) ∧ f_X10_asks v1 v2 v3 μ1 = some (r, μ2) ∧ PP μ2 := by
  obtain ⟨a1, -⟩ := id h
  obtain ⟨law, L, l1, l2, l3⟩ := lawF a1
  obtain ⟨R1, R2, R3, R4, R5, R6, R7⟩ := id a1.1
  obtain ⟨c1, c2, c3, ⟨c4, c5⟩, c6, c7⟩ := a1.2.2.2
  have hn := bd_int R1 (by decide)
  have hW := ln_109 hL
  have hJ : VJ μ 65 (μ.1 181) := a1.2.2.2.j
  have hP9 : ∀ v m, m.1 65 0 = μ.1 65 0 → f_X8_has 65 v m = some (if 0 ≤ v.toInt ∧ v.toInt < nat (μ.1 181 54) then 1 else 0) := by
    intro v m hm
    rw [v_has, hm, c1, hn]
  have hP10 : ∀ v m, m.1 181 = μ.1 181 → f_X10_isPerson v m = some (if 0 ≤ v.toInt ∧ v.toInt < nat (μ.1 181 54) then 1 else 0) := by
    intro v m hm
    rw [v_isP v (by rw [hm]; exact R1), hm]
  have no : (¬ (0 ≤ v1.toInt ∧ v1.toInt < nat (μ.1 181 54)) ∨ ¬ (0 ≤ v2.toInt ∧ v2.toInt < nat (μ.1 181 54)) ∨ v1 = v2) → ∃ (r : Int32) (μ1 μ2 : hm_M), f_X9_asks v1 v2 v3 μ = some (r, μ1) ∧ f_X10_asks v1 v2 v3 μ1 = some (r, μ2) ∧ PP μ2 := by
    intro hno
    refine ⟨-1, μ, μ, ?_, ?_, h⟩
    · unfold f_X9_asks
      rw [hP9 v1 μ rfl, hP9 v2 μ rfl]
      by_cases q1 : 0 ≤ v1.toInt ∧ v1.toInt < nat (μ.1 181 54)
      · rw [if_pos q1, Option.bind_some, if_neg (by decide)]
        by_cases q2 : 0 ≤ v2.toInt ∧ v2.toInt < nat (μ.1 181 54)
        · rw [if_pos q2, Option.bind_some, if_neg (by decide), if_pos]
          rcases hno with z | z | z
          · exact absurd q1 z
          · exact absurd q2 z
          · exact z
        · rw [if_neg q2, Option.bind_some, if_pos rfl]
      · rw [if_neg q1, Option.bind_some, if_pos rfl]
    · unfold f_X10_asks f_X10_areTwo
      rw [hP10 v1 μ rfl, hP10 v2 μ rfl]
      by_cases q1 : 0 ≤ v1.toInt ∧ v1.toInt < nat (μ.1 181 54)
      · rw [if_pos q1, Option.bind_some, if_neg (by decide)]
        by_cases q2 : 0 ≤ v2.toInt ∧ v2.toInt < nat (μ.1 181 54)
        · rw [if_pos q2, Option.bind_some, if_neg (by decide), if_pos (show v1 = v2 by
            rcases hno with z | z | z
            · exact absurd q1 z
            · exact absurd q2 z
            · exact z)]
          rfl
        · rw [if_neg q2, Option.bind_some, if_pos rfl]
          rfl
      · rw [if_neg q1, Option.bind_some, if_pos rfl]
        rfl
  by_cases q1 : 0 ≤ v1.toInt ∧ v1.toInt < nat (μ.1 181 54)
  · by_cases q2 : 0 ≤ v2.toInt ∧ v2.toInt < nat (μ.1 181 54)
    · by_cases q3 : v1 = v2
      · exact no (Or.inr (Or.inr q3))
      · obtain ⟨a, rfl, ea, la⟩ := v_of q1.1
        obtain ⟨b, rfl, eb, lb⟩ := v_of q2.1
        have hn9 := R1.2
        have ha8 : a < 8 := by omega
        have hb8 : b < 8 := by omega
        have hab : a ≠ b := fun z => q3 (by rw [z])
        have c1a := (a1.1.b.1 a ha8).1
        have c1b := (a1.1.b.1 b hb8).1
        have Y : f_X9_asks (Int32.ofNat a) (Int32.ofNat b) v3 μ = (if v3 < (0 : Int32) ∨ (2 : Int32) < v3 then some (-1, μ) else (if v3 = 0 then some (Int32.ofNat (far9 (nat (μ.1 181 a)) (nat (μ.1 181 b))), μ) else (if v3 = 1 then hm_b2 (f_X3_lostBetween 65 law (Int32.ofNat a) (Int32.ofNat b) μ) fun x8 μ9 => some (x8, μ9) else (if v3 = 2 then hm_b2 (f_X3_isBarred 65 law (Int32.ofNat a) (Int32.ofNat b) μ) fun x5 μ6 => (if x5 = 0 then some (0, μ6) else some (1, μ6)) else none)))) := by
          unfold f_X9_asks
          rw [hP9 _ μ rfl, hP9 _ μ rfl, if_pos q1, if_pos q2, Option.bind_some, if_neg (by decide), Option.bind_some, if_neg (by decide), if_neg q3, v_far9 ha8 hb8 (by rw [(hJ.1 a ha8).1]; exact c1a.1) (by rw [(hJ.1 b hb8).1]; exact c1b.1) c1a.2 c1b.2, l1]
          rfl
        have X : ∀ m, m.1 181 = μ.1 181 → f_X10_asks (Int32.ofNat a) (Int32.ofNat b) v3 m = (if v3 < (0 : Int32) ∨ (2 : Int32) < v3 then some (-1, m) else (if v3 = 0 then some (Int32.ofNat (far9 (nat (μ.1 181 a)) (nat (μ.1 181 b))), m) else (if v3 = 1 then hm_b2 (f_X10_lostOf (Int32.ofNat a) (Int32.ofNat b) m) fun x5 μ6 => some (x5, μ6) else (if v3 = 2 then hm_b2 (f_X10_isBarred (Int32.ofNat a) (Int32.ofNat b) m) fun x3 μ4 => (if x3 = 0 then some (0, μ4) else some (1, μ4)) else none)))) := by
          intro m hm
          unfold f_X10_asks f_X10_areTwo
          rw [hP10 _ m hm, hP10 _ m hm, if_pos q1, if_pos q2, Option.bind_some, if_neg (by decide), Option.bind_some, if_neg (by decide), if_neg q3, Option.bind_some, if_neg (by decide), v_far10 ha8 hb8 (by rw [hm]; exact c1a.1) (by rw [hm]; exact c1b.1) c1a.2 c1b.2]
          rfl
        by_cases y : v3 < (0 : Int32) ∨ (2 : Int32) < v3
        · exact ⟨-1, μ, μ, by rw [Y, if_pos y], by rw [X μ rfl, if_pos y], h⟩
        · rw [if_neg y] at Y
          by_cases y0 : v3 = 0
          · exact ⟨_, μ, μ, by rw [Y, if_pos y0], by rw [X μ rfl, if_neg y, if_pos y0], h⟩
          · rw [if_neg y0] at Y
            by_cases y1 : v3 = 1
            · obtain ⟨m1, f1, e1⟩ := j9_lost ha8 hb8 hab a1.1.b hJ (by unfold vO; omega) l2 hW
              have k1 := fj_181 f1
              obtain ⟨m2, f2, e2⟩ := j10_lost (μ := m1) (L := L) ha8 hb8 (by rw [k1]; exact a1.1.b) (by rw [k1]; exact l3)
              rw [k1] at e2
              refine ⟨_, m1, m2, by rw [Y, if_pos y1, e1]; rfl, ?_, fs_PP h (fs_trans (fj_fs f1) (fq_fs f2))⟩
              rw [X m1 k1, if_neg y, if_neg y0, if_pos y1, e2]
              rfl
            · rw [if_neg y1] at Y
              have y2 : v3 = 2 := by
                simp only [i_lt, i_eq, show (0 : Int32).toInt = 0 from rfl, show (1 : Int32).toInt = 1 from rfl, show (2 : Int32).toInt = 2 from rfl] at *
                omega
              obtain ⟨m1, f1, e1⟩ := j9_bar ha8 hb8 hab a1.1.b hJ (by unfold vO; omega) l2 hW
              have k1 := fj_181 f1
              obtain ⟨m2, f2, e2⟩ := j10_bar (μ := m1) (L := L) ha8 hb8 (by rw [k1]; exact a1.1.b) (by rw [k1]; exact l3)
              rw [k1] at e2
              refine ⟨zb (s_bar L (μ.1 181) a b), m1, m2, ?_, ?_, fs_PP h (fs_trans (fj_fs f1) (fq_fs f2))⟩
              · rw [Y, if_pos y2, e1, b2_some]
                cases s_bar L (μ.1 181) a b <;> rfl
              · rw [X m1 k1, if_neg y, if_neg y0, if_neg y1, if_pos y2, e2, b2_some]
                cases s_bar L (μ.1 181) a b <;> rfl
    · exact no (Or.inr (Or.inl q2))
  · exact no (Or.inl q1)
def sumr (g : Nat → Nat) (lo : Nat) : Nat → Nat
  | 0 => 0
  | k + 1 => sumr g lo k + g (lo + k)
def hl (L : List pc_K) (ρ : Nat → Int32) (a b : Nat) : Nat := if (nat (ρ (16 + a))).testBit b = true then s_lost L ρ a b else 0
def s_all (L : List pc_K) (ρ : Nat → Int32) (n : Nat) : Nat := sumr (fun a => sumr (hl L ρ a) (a + 1) (n - (a + 1))) 0 n
theorem lawIF_fj {μ μ1 : hm_M} {v : Nat} (hv : vO v) (f : fj μ μ1) : f_X8_lawInForce v μ1 = f_X8_lawInForce v μ := by
  unfold vO at hv
  unfold f_X8_lawInForce f_X8_hasLaw hm_ldR
  rw [f.2 v 8 (by omega) (by omega) (by omega), f.2 v 7 (by omega) (by omega) (by omega), show μ1.2.2.1 = μ.2.2.1 from congrArg (fun z => z.2.1) f.1]
section
variable {μ : hm_M} {L : List pc_K} {ρ : Nat → Int32} {v n : Nat} {law : Option Nat}
theorem v_lost9 (hn : n ≤ 8) (h0 : μ.1 v 0 = Int32.ofNat n) (h4 : ∀ i, i < 8 → μ.1 (v + 4) i = ρ (16 + i) ∧ bd (ρ (16 + i)) 256) (hR : bR ρ) (hJ : VJ μ v ρ) (hv : vO v) (l1 : f_X8_lawInForce v μ = some law) (hL : LJ μ law L) (hW : hm_ln μ 109 = 8) : ∃ μ1, fj μ μ1 ∧ f_X3_lostInHolds v μ = some (Int32.ofNat (s_all L ρ n), μ1) := by
  have hv2 := hv
  unfold vO at hv2
  have inner : ∀ (a A : Nat) (μ1 : hm_M), a < n → fj μ μ1 → ∃ μ2, fj μ μ2 ∧ ∀ κ : (Int32 → Int32 → hm_M → Option (Int32 × hm_M)) × (Int32 → hm_M → Option (Int32 × hm_M)) × (Int32 → hm_M → Option (Int32 × hm_M)), f_X3_lostInHolds_L17 v (Int32.ofNat a) κ.1 κ.2.1 κ.2.2 hm_fu (Int32.ofNat A) (Int32.ofNat (a + 1)) μ1 = κ.2.2 (Int32.ofNat (A + sumr (hl L ρ a) (a + 1) (n - (a + 1)))) μ2 := by
    intro a A μ1 ha f1
    suffices H : ∃ (x y : Int32) (m : hm_M), (x = Int32.ofNat (A + sumr (hl L ρ a) (a + 1) (n - (a + 1))) ∧ y = Int32.ofNat (a + 1 + (n - (a + 1))) ∧ fj μ m) ∧ ∀ κ : (Int32 → Int32 → hm_M → Option (Int32 × hm_M)) × (Int32 → hm_M → Option (Int32 × hm_M)) × (Int32 → hm_M → Option (Int32 × hm_M)), f_X3_lostInHolds_L17 v (Int32.ofNat a) κ.1 κ.2.1 κ.2.2 hm_fu (Int32.ofNat A) (Int32.ofNat (a + 1)) μ1 = κ.2.2 x m by
      obtain ⟨x, y, m, ⟨rfl, rfl, f⟩, e⟩ := H
      exact ⟨m, f, e⟩
    refine lu3 (L := fun (κ : (Int32 → Int32 → hm_M → Option (Int32 × hm_M)) × (Int32 → hm_M → Option (Int32 × hm_M)) × (Int32 → hm_M → Option (Int32 × hm_M))) => f_X3_lostInHolds_L17 v (Int32.ofNat a) κ.1 κ.2.1 κ.2.2) (fun k x y m => x = Int32.ofNat (A + sumr (hl L ρ a) (a + 1) k) ∧ y = Int32.ofNat (a + 1 + k) ∧ fj μ m) (fun κ x y m => κ.2.2 x m) (n - (a + 1)) (fun k x y m hk hI => ?_) (fun x y m hI κ F => ?_) (fu_lt (by omega)) ⟨rfl, rfl, f1⟩
    · obtain ⟨rfl, rfl, f⟩ := hI
      have e0 : m.1 v 0 = Int32.ofNat n := by rw [f.2 _ _ (by omega) (by omega) (by omega)]; exact h0
      have e4 : m.1 (v + 4) a = ρ (16 + a) := by rw [f.2 _ _ (by omega) (by omega) (by omega)]; exact (h4 a (by omega)).1
      obtain ⟨b1, b2⟩ := (h4 a (by omega)).2
      have hh : f_X8_holdHands v (Int32.ofNat a) (Int32.ofNat (a + 1 + k)) m = some (zb ((nat (ρ (16 + a))).testBit (a + 1 + k))) := by
        unfold f_X8_holdHands
        rw [ld_n (by omega) (by decide), Option.bind_some, e4]
        conv => lhs; rw [b1]
        rw [n_bit _ b2 _ (by omega)]
        cases (nat (ρ (16 + a))).testBit (a + 1 + k) <;> rfl
      have ek : Int32.ofNat (a + 1 + k) + 1 = Int32.ofNat (a + 1 + (k + 1)) := n_add _ 1
      cases hz : (nat (ρ (16 + a))).testBit (a + 1 + k) with
      | false =>
        refine ⟨_, _, m, ⟨rfl, rfl, f⟩, fun κ F => ?_⟩
        rw [f_X3_lostInHolds_L17, e0, if_neg (by rw [n_le (by omega) (by omega)]; omega), hh, Option.bind_some, hz, if_pos (show zb false = 0 from rfl)]
        unfold f_X3_lostInHolds_J51
        rw [ek]
        conv => rhs; rw [sumr]
        rw [show hl L ρ a (a + 1 + k) = 0 from if_neg (by rw [hz]; decide)]
        rfl
      | true =>
        obtain ⟨m2, f2, e2⟩ := j9_lost (μ := m) (a := a) (b := a + 1 + k) (by omega) (by omega) (by omega) hR (hJ.fj hv f) hv (hL.fj f) ((congrArg (fun z => z.2.2.2.2 109) f.1).trans hW)
        refine ⟨_, _, m2, ⟨rfl, rfl, fj_trans f f2⟩, fun κ F => ?_⟩
        rw [f_X3_lostInHolds_L17, e0, if_neg (by rw [n_le (by omega) (by omega)]; omega), hh, Option.bind_some, hz, if_neg (show ¬ zb true = 0 by decide), lawIF_fj hv f, l1, Option.bind_some, e2, b2_some]
        unfold f_X3_lostInHolds_J51
        rw [ek, n_add]
        conv => rhs; rw [sumr]
        rw [show hl L ρ a (a + 1 + k) = s_lost L ρ a (a + 1 + k) from if_pos hz, Nat.add_assoc]
    · obtain ⟨rfl, rfl, f⟩ := hI
      have e0 : m.1 v 0 = Int32.ofNat n := by rw [f.2 _ _ (by omega) (by omega) (by omega)]; exact h0
      rw [f_X3_lostInHolds_L17, e0, if_pos (by rw [n_le (by omega) (by omega)]; omega)]
  unfold f_X3_lostInHolds s_all
  refine lo3 (L := f_X3_lostInHolds_L4 v (fun z7_2 μz7 => some (z7_2, μz7))) (fun k x y m => x = Int32.ofNat (sumr (fun a => sumr (hl L ρ a) (a + 1) (n - (a + 1))) 0 k) ∧ y = Int32.ofNat k ∧ fj μ m) (fun o => ∃ μ1, fj μ μ1 ∧ o = some (Int32.ofNat (sumr (fun a => sumr (hl L ρ a) (a + 1) (n - (a + 1))) 0 n), μ1)) n (fun k x y m hk hI => Or.inl ?_) (fun x y m hI f => ?_) (fu_lt (by omega)) ⟨rfl, rfl, fj_refl μ⟩
  · obtain ⟨rfl, rfl, f⟩ := hI
    have e0 : m.1 v 0 = Int32.ofNat n := by rw [f.2 _ _ (by omega) (by omega) (by omega)]; exact h0
    have ek : Int32.ofNat k + 1 = Int32.ofNat (k + 1) := n_add _ 1
    have hin2 := inner k (sumr (fun a => sumr (hl L ρ a) (a + 1) (n - (a + 1))) 0 k) m hk f
    obtain ⟨m2, f2, e2⟩ := hin2
    refine ⟨_, _, m2, ⟨rfl, rfl, f2⟩, fun F => ?_⟩
    rw [f_X3_lostInHolds_L4, e0, if_neg (by rw [n_le (by omega) (by omega)]; omega), ek]
    refine (e2 (_, _, _)).trans ?_
    show f_X3_lostInHolds_L4 v _ F _ (Int32.ofNat (k + 1)) m2 = _
    conv => rhs; rw [sumr, Nat.zero_add]
  · obtain ⟨rfl, rfl, f⟩ := hI
    have e0 : m.1 v 0 = Int32.ofNat n := by rw [f.2 _ _ (by omega) (by omega) (by omega)]; exact h0
    refine ⟨m, f, ?_⟩
    rw [f_X3_lostInHolds_L4, e0, if_pos (by rw [n_le (by omega) (by omega)]; omega)]
theorem v_lost10 (hn : n ≤ 8) (h0 : μ.1 181 54 = Int32.ofNat n) (h4 : ∀ i, i < 8 → bd (μ.1 181 (16 + i)) 256) (hR : bR (μ.1 181)) (hL : FL (μ.1 181) L) : ∃ μ1, fq μ μ1 ∧ f_X10_lostInAll μ = some (Int32.ofNat (s_all L (μ.1 181) n), μ1) := by
  have inner : ∀ (a A : Nat) (μ1 : hm_M), a < n → fq μ μ1 → ∃ μ2, fq μ μ2 ∧ ∀ κ : (Int32 → Int32 → hm_M → Option (Int32 × hm_M)) × (Int32 → hm_M → Option (Int32 × hm_M)) × (Int32 → hm_M → Option (Int32 × hm_M)), f_X10_lostInAll_L16 (Int32.ofNat a) κ.1 κ.2.1 κ.2.2 hm_fu (Int32.ofNat A) (Int32.ofNat (a + 1)) μ1 = κ.2.2 (Int32.ofNat (A + sumr (hl L (μ.1 181) a) (a + 1) (n - (a + 1)))) μ2 := by
    intro a A μ1 ha f1
    suffices H : ∃ (x y : Int32) (m : hm_M), (x = Int32.ofNat (A + sumr (hl L (μ.1 181) a) (a + 1) (n - (a + 1))) ∧ y = Int32.ofNat (a + 1 + (n - (a + 1))) ∧ fq μ m) ∧ ∀ κ : (Int32 → Int32 → hm_M → Option (Int32 × hm_M)) × (Int32 → hm_M → Option (Int32 × hm_M)) × (Int32 → hm_M → Option (Int32 × hm_M)), f_X10_lostInAll_L16 (Int32.ofNat a) κ.1 κ.2.1 κ.2.2 hm_fu (Int32.ofNat A) (Int32.ofNat (a + 1)) μ1 = κ.2.2 x m by
      obtain ⟨x, y, m, ⟨rfl, rfl, f⟩, e⟩ := H
      exact ⟨m, f, e⟩
    refine lu3 (L := fun (κ : (Int32 → Int32 → hm_M → Option (Int32 × hm_M)) × (Int32 → hm_M → Option (Int32 × hm_M)) × (Int32 → hm_M → Option (Int32 × hm_M))) => f_X10_lostInAll_L16 (Int32.ofNat a) κ.1 κ.2.1 κ.2.2) (fun k x y m => x = Int32.ofNat (A + sumr (hl L (μ.1 181) a) (a + 1) k) ∧ y = Int32.ofNat (a + 1 + k) ∧ fq μ m) (fun κ x y m => κ.2.2 x m) (n - (a + 1)) (fun k x y m hk hI => ?_) (fun x y m hI κ F => ?_) (fu_lt (by omega)) ⟨rfl, rfl, f1⟩
    · obtain ⟨rfl, rfl, f⟩ := hI
      have e0 : f_X10_many m = some (Int32.ofNat n) := by unfold f_X10_many; rw [show (54 : Int32) = Int32.ofNat 54 from rfl, ld_n (by decide) (by decide), fq_181 f, h0]; rfl
      obtain ⟨b1, b2⟩ := h4 a (by omega)
      have hld : hm_ld m 181 5665 ((16 : Int32) + Int32.ofNat a) = some (Int32.ofNat (nat ((μ.1 181) (16 + a)))) := by
        rw [show (16 : Int32) = Int32.ofNat 16 from rfl, n_add, ld_n (by omega) (by decide), fq_181 f]
        exact congrArg some b1
      have ek : Int32.ofNat (a + 1 + k) + 1 = Int32.ofNat (a + 1 + (k + 1)) := n_add _ 1
      cases hz : (nat ((μ.1 181) (16 + a))).testBit (a + 1 + k) with
      | false =>
        refine ⟨_, _, m, ⟨rfl, rfl, f⟩, fun κ F => ?_⟩
        rw [f_X10_lostInAll_L16, e0, Option.bind_some, if_neg (by rw [n_le (by omega) (by omega)]; omega), hld, Option.bind_some, v_isIn b2 (by omega), Option.bind_some, hz, if_pos (show zb false = 0 from rfl)]
        unfold f_X10_lostInAll_J51
        rw [ek, Int32.add_zero]
        conv => rhs; rw [sumr]
        rw [show hl L (μ.1 181) a (a + 1 + k) = 0 from if_neg (by rw [hz]; decide)]
        rfl
      | true =>
        obtain ⟨m2, f2, e2⟩ := j10_lost (μ := m) (L := L) (a := a) (b := a + 1 + k) (by omega) (by omega) (by rw [fq_181 f]; exact hR) (by rw [fq_181 f]; exact hL)
        rw [fq_181 f] at e2
        refine ⟨_, _, m2, ⟨rfl, rfl, fq_trans f f2⟩, fun κ F => ?_⟩
        rw [f_X10_lostInAll_L16, e0, Option.bind_some, if_neg (by rw [n_le (by omega) (by omega)]; omega), hld, Option.bind_some, v_isIn b2 (by omega), Option.bind_some, hz, if_neg (show ¬ zb true = 0 by decide), e2, b2_some]
        unfold f_X10_lostInAll_J51
        rw [ek, n_add]
        conv => rhs; rw [sumr]
        rw [show hl L (μ.1 181) a (a + 1 + k) = s_lost L (μ.1 181) a (a + 1 + k) from if_pos hz, Nat.add_assoc]
    · obtain ⟨rfl, rfl, f⟩ := hI
      have e0 : f_X10_many m = some (Int32.ofNat n) := by unfold f_X10_many; rw [show (54 : Int32) = Int32.ofNat 54 from rfl, ld_n (by decide) (by decide), fq_181 f, h0]; rfl
      rw [f_X10_lostInAll_L16, e0, Option.bind_some, if_pos (by rw [n_le (by omega) (by omega)]; omega)]
  unfold f_X10_lostInAll s_all
  refine lo3 (L := f_X10_lostInAll_L4 (fun z9_1 μz9 => some (z9_1, μz9))) (fun k x y m => x = Int32.ofNat (sumr (fun a => sumr (hl L (μ.1 181) a) (a + 1) (n - (a + 1))) 0 k) ∧ y = Int32.ofNat k ∧ fq μ m) (fun o => ∃ μ1, fq μ μ1 ∧ o = some (Int32.ofNat (sumr (fun a => sumr (hl L (μ.1 181) a) (a + 1) (n - (a + 1))) 0 n), μ1)) n (fun k x y m hk hI => Or.inl ?_) (fun x y m hI f => ?_) (fu_lt (by omega)) ⟨rfl, rfl, fq_refl μ⟩
  · obtain ⟨rfl, rfl, f⟩ := hI
    have e0 : f_X10_many m = some (Int32.ofNat n) := by unfold f_X10_many; rw [show (54 : Int32) = Int32.ofNat 54 from rfl, ld_n (by decide) (by decide), fq_181 f, h0]; rfl
    have ek : Int32.ofNat k + 1 = Int32.ofNat (k + 1) := n_add _ 1
    have hin2 := inner k (sumr (fun a => sumr (hl L (μ.1 181) a) (a + 1) (n - (a + 1))) 0 k) m hk f
    obtain ⟨m2, f2, e2⟩ := hin2
    refine ⟨_, _, m2, ⟨rfl, rfl, f2⟩, fun F => ?_⟩
    rw [f_X10_lostInAll_L4, e0, Option.bind_some, if_neg (by rw [n_le (by omega) (by omega)]; omega), ek]
    refine (e2 (_, _, _)).trans ?_
    show f_X10_lostInAll_L4 _ F _ (Int32.ofNat (k + 1)) m2 = _
    conv => rhs; rw [sumr, Nat.zero_add]
  · obtain ⟨rfl, rfl, f⟩ := hI
    have e0 : f_X10_many m = some (Int32.ofNat n) := by unfold f_X10_many; rw [show (54 : Int32) = Int32.ofNat 54 from rfl, ld_n (by decide) (by decide), fq_181 f, h0]; rfl
    refine ⟨m, f, ?_⟩
    rw [f_X10_lostInAll_L4, e0, Option.bind_some, if_pos (by rw [n_le (by omega) (by omega)]; omega)]
end
end
