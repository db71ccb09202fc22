section
/-! The steps that can be undone, told once for both sides; take, loose, walk, pass. -/
abbrev ent : Type := Nat × (Nat → Int32)
def rowm (r : Nat → Int32) (e : ent) : Prop := r 0 = Int32.ofNat e.1 ∧ r 1 = e.2 24 ∧ ∀ j, j < 8 → r (2 + j) = e.2 j ∧ r (10 + j) = e.2 (8 + j) ∧ r (18 + j) = e.2 (16 + j)
def SR9 (μ : hm_M) (o s : Nat) (E : Nat → ent) : Prop := ∃ f, f < 17 ∧ s ≤ 16 ∧ μ.1 o 1 = Int32.ofNat f ∧ μ.1 o 2 = Int32.ofNat s ∧ ∀ i, i < s → rowm (μ.1 (o + 2 + (f + i) % 17)) (E i)
def SR10 (m : hm_M) (s : Nat) (E : Nat → ent) : Prop := s ≤ 16 ∧ m.1 179 33 = Int32.ofNat s ∧ ∀ i, i < s → (∀ k, k < 25 → m.1 193 (26 * i + k) = (E i).2 k) ∧ m.1 193 (26 * i + 25) = Int32.ofNat (E i).1
def NW (n : Nat) (ρ : Nat → Int32) : Prop := (∀ j, j < 8 → bd (ρ j) 25 ∧ bd (ρ (8 + j)) 5 ∧ bd (ρ (16 + j)) 256) ∧ bd (ρ 24) 1000 ∧ (∀ p q, p < 8 → q < 8 → (nat (ρ (16 + p))).testBit q = (nat (ρ (16 + q))).testBit p) ∧ ∀ p q, p < 8 → (nat (ρ (16 + p))).testBit q = true → p < n ∧ q < n ∧ p ≠ q
def EOK (n s : Nat) (E : Nat → ent) : Prop := ∀ i, i < s → (E i).1 < 4 ∧ NW n (E i).2
theorem DW.n {ρ : Nat → Int32} (h : DW ρ) : NW (nat (ρ 54)) ρ := ⟨fun j hj => ⟨(h.2.1 j hj).1, (h.2.1 j hj).2.1, (h.2.1 j hj).2.2.2⟩, h.2.2.1.1, h.2.2.2.1, h.2.2.2.2⟩
theorem PS_to {μ : hm_M} (h : PS μ) : ∃ s E, SR9 μ 87 s E ∧ SR10 μ s E ∧ EOK (nat (μ.1 181 54)) s E := by
  obtain ⟨a1, a2, a3, a4⟩ := h
  have l1 := a1.2
  have l2 := a2.2
  refine ⟨nat (μ.1 87 2), fun i => (nat (μ.1 193 (26 * i + 25)), fun k => μ.1 193 (26 * i + k)), ⟨nat (μ.1 87 1), l1, by omega, a1.1, a2.1, fun i hi => ?_⟩, ⟨by omega, by rw [← a3]; exact a2.1, fun i hi => ⟨fun k _ => rfl, (a4 i hi).1.2.1.1⟩⟩, fun i hi => ?_⟩
  · obtain ⟨⟨b1, b2, b3, b4⟩, c, d, e⟩ := a4 i hi
    refine ⟨b1.trans b2.1, b3, fun j hj => ⟨(c j hj).1.1, ?_, ?_⟩⟩
    · show _ = μ.1 193 (26 * i + (8 + j))
      rw [← Nat.add_assoc]; exact (c j hj).2.1.1
    · show _ = μ.1 193 (26 * i + (16 + j))
      rw [← Nat.add_assoc]; exact (c j hj).2.2.1
  · obtain ⟨⟨b1, b2, b3, b4⟩, c, d, e⟩ := a4 i hi
    refine ⟨b2.2, fun j hj => ⟨(c j hj).1.2, ?_, ?_⟩, b4, fun p q hp hq => ?_, fun p q hp => ?_⟩
    · show bd (μ.1 193 (26 * i + (8 + j))) 5
      rw [← Nat.add_assoc]; exact (c j hj).2.1.2
    · show bd (μ.1 193 (26 * i + (16 + j))) 256
      rw [← Nat.add_assoc]; exact (c j hj).2.2.2
    · show (nat (μ.1 193 (26 * i + (16 + p)))).testBit q = (nat (μ.1 193 (26 * i + (16 + q)))).testBit p
      rw [← Nat.add_assoc, ← Nat.add_assoc]; exact d p q hp hq
    · show (nat (μ.1 193 (26 * i + (16 + p)))).testBit q = true → _
      rw [← Nat.add_assoc]; exact e p q hp
theorem PS_of {μ : hm_M} {s : Nat} {E : Nat → ent} (h9 : SR9 μ 87 s E) (h10 : SR10 μ s E) (hE : EOK (nat (μ.1 181 54)) s E) : PS μ := by
  obtain ⟨f, f1, f2, f3, f4, f5⟩ := h9
  obtain ⟨g1, g2, g3⟩ := h10
  refine ⟨bd_of f3 (by omega) (by decide), bd_of f4 (by omega) (by decide), by rw [f4, g2], ?_⟩
  rw [f4, f3, nat_n (by omega), nat_n (by omega)]
  intro i hi
  obtain ⟨r1, r2, r3⟩ := f5 i hi
  obtain ⟨q1, q2⟩ := g3 i hi
  obtain ⟨e1, e2, e3, e4, e5⟩ := hE i hi
  have k8 : ∀ j, j < 8 → μ.1 193 (26 * i + 8 + j) = (E i).2 (8 + j) := fun j hj => by rw [Nat.add_assoc, q1 (8 + j) (by omega)]
  have k16 : ∀ j, j < 8 → μ.1 193 (26 * i + 16 + j) = (E i).2 (16 + j) := fun j hj => by rw [Nat.add_assoc, q1 (16 + j) (by omega)]
  refine ⟨?_, fun j hj => ?_, fun p q hp hq => ?_, fun p q hp => ?_⟩
  · rw [q2, q1 24 (by omega)]
    exact ⟨r1, bd_n e1 (by decide), r2, e3⟩
  · rw [q1 j (by omega), k8 j hj, k16 j hj]
    obtain ⟨w1, w2, w3⟩ := r3 j hj
    obtain ⟨u1, u2, u3⟩ := e2 j hj
    exact ⟨⟨w1, u1⟩, ⟨w2, u2⟩, w3, u3⟩
  · rw [k16 p hp, k16 q hq]; exact e4 p q hp hq
  · rw [k16 p hp]; exact e5 p q hp
/-- one more -/
def pE (s : Nat) (E : Nat → ent) (e : ent) (i : Nat) : ent := if i = min s 15 then e else E (if s = 16 then i + 1 else i)
theorem EOK_push {n s : Nat} {E : Nat → ent} {e : ent} (h : EOK n s E) (h1 : e.1 < 4) (h2 : NW n e.2) (hs : s ≤ 16) : EOK n (min s 15 + 1) (pE s E e) := by
  intro i hi
  unfold pE
  by_cases z : i = min s 15
  · rw [if_pos z]; exact ⟨h1, h2⟩
  · rw [if_neg z]
    exact h _ (by split <;> omega)
theorem SR10_push {m m1 : hm_M} {s d : Nat} {E : Nat → ent} {ρ : Nat → Int32} (h : SR10 m s E) (hρ : m.1 181 = ρ) (k4 : m1.1 179 33 = Int32.ofNat (min s 15 + 1)) (k5 : ∀ j, j < 26 * min s 15 → m1.1 193 j = m.1 193 (if s = 16 then j + 26 else j)) (k6 : ∀ i, i < 25 → m1.1 193 (26 * min s 15 + i) = m.1 181 i) (k7 : m1.1 193 (26 * min s 15 + 25) = Int32.ofNat d) : SR10 m1 (min s 15 + 1) (pE s E (d, ρ)) := by
  obtain ⟨g1, g2, g3⟩ := h
  refine ⟨by omega, k4, fun i hi => ?_⟩
  unfold pE
  by_cases z : i = min s 15
  · rw [if_pos z, z]
    exact ⟨fun k hk => by rw [k6 k hk, hρ], k7⟩
  · rw [if_neg z]
    obtain ⟨w1, w2⟩ := g3 (if s = 16 then i + 1 else i) (by split <;> omega)
    have e : ∀ k, k < 26 → m1.1 193 (26 * i + k) = m.1 193 (26 * (if s = 16 then i + 1 else i) + k) := fun k hk => by
      rw [k5 _ (by omega)]
      by_cases y : s = 16
      · rw [if_pos y, if_pos y, show 26 * i + k + 26 = 26 * (i + 1) + k by omega]
      · rw [if_neg y, if_neg y]
    exact ⟨fun k hk => by rw [e k (by omega)]; exact w1 k hk, by rw [e 25 (by omega)]; exact w2⟩
/-- the component: noted, done, kept -/
theorem SR9_do {μ : hm_M} {L : List pc_K} {ρ ρ1 : Nat → Int32} {law : Option Nat} {s d k : Nat} {E : Nat → ent} {x y : Int32} (h : SR9 μ 87 s E) (hV : VD μ 65 ρ) (l1 : f_X8_lawInForce 65 μ = some law) (hL : LJ μ law L) (hW : hm_ln μ 109 = 8) (hk : k < 100000) (h9 : D9 L ρ d x y (Int32.ofNat k) ρ1) : ∃ μ3 μ5 μ7, f_X7_note 87 65 μ = some μ3 ∧ f_X1_doOne 65 (Int32.ofNat d) x y μ3 = some (Int32.ofNat k, μ5) ∧ f_X7_keepNoted 87 (Int32.ofNat d) μ5 = some μ7 ∧ SR9 μ7 87 (min s 15 + 1) (pE s E (d, ρ)) ∧ VD μ7 65 ρ1 ∧ μ7.2 = μ.2 ∧ ∀ a j, ¬ (87 ≤ a ∧ a ≤ 105) → ¬ (106 ≤ a ∧ a ≤ 111) → a ≠ 66 → a ≠ 67 → a ≠ 69 → ¬ (a = 70 ∧ j = 0) → μ7.1 a j = μ.1 a j := by
  obtain ⟨f, f1, f2, f3, f4, f5⟩ := h
  obtain ⟨μ3, n1, ⟨n2, n3⟩, n4, n5⟩ := v_note (v := 65) f3 f4 f1 (by omega) (by omega)
  have hr : (f + s) % 17 < 17 := Nat.mod_lt _ (by decide)
  have hv : vO 65 := by unfold vO; omega
  have V3 : VD μ3 65 ρ := ⟨by rw [n3 _ _ (by omega)]; exact hV.1, fun i hi => by rw [n3 _ _ (by omega)]; exact hV.2.1 i hi, fun i hi => by rw [n3 _ _ (by omega), n3 _ _ (by omega), n3 _ _ (by omega)]; exact hV.2.2.1 i hi, by rw [n3 _ _ (by omega)]; exact hV.2.2.2.1, by rw [n3 _ _ (by omega)]; exact hV.2.2.2.2⟩
  have l3 : f_X8_lawInForce 65 μ3 = some law := by
    rw [← l1]
    unfold f_X8_lawInForce f_X8_hasLaw hm_ldR
    rw [n3 _ _ (by omega), n3 _ _ (by omega), show μ3.2.2.1 = μ.2.2.1 from congrArg (fun z => z.2.1) n2]
  have L3 : LJ μ3 law L := by
    rcases hL with h | ⟨p, C, h1, h2, h3, h4⟩
    · exact Or.inl h
    · refine Or.inr ⟨p, C, h1, h2, h3.same (fun a q1 q2 j => n3 a j (by omega)) (congrArg (fun z => z.2.2.2.2) n2), ?_⟩
      have epg : pg9 μ3 p = pg9 μ p := funext fun j => by
        unfold pg9
        rw [n3 _ _ (by omega), n3 _ _ (by omega)]
      rw [epg]
      exact h4
  obtain ⟨μ5, d1, d2, d3⟩ := h9 μ3 65 law V3 hv (by decide) l3 L3 ((congrArg (fun z => z.2.2.2.2 109) n2).trans hW)
  have fr5 : ∀ a j, ¬ (106 ≤ a ∧ a ≤ 111) → a ≠ 66 → a ≠ 67 → a ≠ 69 → ¬ (a = 70 ∧ j = 0) → μ5.1 a j = μ3.1 a j := fun a j h1 h2 h3 h4 h5 => d3.2 a j (by omega) (by omega) (by omega) (by omega) (by omega) (by omega) (by omega) (by omega)
  have g1 : μ5.1 87 1 = Int32.ofNat f := by rw [fr5 _ _ (by omega) (by omega) (by omega) (by omega) (by omega), n3 _ _ (by omega)]; exact f3
  have g2 : μ5.1 87 2 = Int32.ofNat s := by rw [fr5 _ _ (by omega) (by omega) (by omega) (by omega) (by omega), n3 _ _ (by omega)]; exact f4
  have kn := v_keepN (d := d) g1 g2 f1 (by omega)
  refine ⟨μ3, μ5, _, n1, d1, kn, ?_, ?_, ?_, ?_⟩
  · have rnew : ∀ j, j < 26 → j ≠ 0 → μ5.1 (87 + 2 + (f + s) % 17) j = μ3.1 (87 + 2 + (f + s) % 17) j := fun j _ _ => fr5 _ _ (by omega) (by omega) (by omega) (by omega) (by omega)
    have rn : ∀ r : Nat → Int32, r 0 = Int32.ofNat d → (∀ j, j < 26 → j ≠ 0 → r j = μ3.1 (87 + 2 + (f + s) % 17) j) → rowm r (d, ρ) := by
      intro r r0 rj
      refine ⟨r0, ?_, fun j hj => ⟨?_, ?_, ?_⟩⟩
      · rw [rj 1 (by omega) (by omega), n4]; exact hV.2.2.2.1
      · rw [rj (2 + j) (by omega) (by omega), (n5 j hj).1]; exact (hV.2.2.1 j hj).1
      · rw [rj (10 + j) (by omega) (by omega), (n5 j hj).2.1]; exact (hV.2.2.1 j hj).2.1
      · rw [rj (18 + j) (by omega) (by omega), (n5 j hj).2.2]; exact hV.2.1 j hj
    by_cases z : s < 16
    · rw [if_pos z]
      refine ⟨f, f1, by omega, ?_, ?_, fun i hi => ?_⟩
      · rw [wI_ne (by omega), wI_ne (by omega)]; exact g1
      · rw [wI_at, Nat.min_eq_left (by omega)]
      · unfold pE
        by_cases y : i = min s 15
        · rw [if_pos y, y, Nat.min_eq_left (by omega)]
          refine rn _ ?_ fun j h1 h2 => ?_
          · rw [wI_ne (by omega), wI_at]
          · rw [wI_ne (by omega), wI_ne (by omega)]; exact rnew j h1 h2
        · rw [if_neg y, if_neg (by omega)]
          have hi2 : i < s := by omega
          have hr2 : (f + i) % 17 < 17 := Nat.mod_lt _ (by decide)
          have ne : (f + i) % 17 ≠ (f + s) % 17 := by omega
          have : (hm_wI (hm_wI μ5 (87 + 2 + (f + s) % 17) 0 (Int32.ofNat d)) 87 2 (Int32.ofNat (s + 1))).1 (87 + 2 + (f + i) % 17) = μ.1 (87 + 2 + (f + i) % 17) := funext fun j => by
            rw [wI_ne (by omega), wI_ne (by omega), fr5 _ _ (by omega) (by omega) (by omega) (by omega) (by omega), n3 _ _ (by omega)]
          rw [this]
          exact f5 i hi2
    · rw [if_neg z]
      have es : s = 16 := by omega
      refine ⟨(f + 1) % 17, Nat.mod_lt _ (by decide), by omega, wI_at _ _ _ _, ?_, fun i hi => ?_⟩
      · rw [wI_ne (by omega), wI_ne (by omega), g2, es]; rfl
      · unfold pE
        by_cases y : i = min s 15
        · rw [if_pos y, y]
          have er : ((f + 1) % 17 + min s 15) % 17 = (f + s) % 17 := by rw [es]; omega
          rw [er]
          refine rn _ ?_ fun j h1 h2 => ?_
          · rw [wI_ne (by omega), wI_at]
          · rw [wI_ne (by omega), wI_ne (by omega)]; exact rnew j h1 h2
        · rw [if_neg y, if_pos es]
          have hi2 : i + 1 < s := by omega
          have er : ((f + 1) % 17 + i) % 17 = (f + (i + 1)) % 17 := by omega
          have hr2 : (f + (i + 1)) % 17 < 17 := Nat.mod_lt _ (by decide)
          have ne : (f + (i + 1)) % 17 ≠ (f + s) % 17 := by omega
          rw [er]
          have : (hm_wI (hm_wI μ5 (87 + 2 + (f + s) % 17) 0 (Int32.ofNat d)) 87 1 (Int32.ofNat ((f + 1) % 17))).1 (87 + 2 + (f + (i + 1)) % 17) = μ.1 (87 + 2 + (f + (i + 1)) % 17) := funext fun j => by
            rw [wI_ne (by omega), wI_ne (by omega), fr5 _ _ (by omega) (by omega) (by omega) (by omega) (by omega), n3 _ _ (by omega)]
          rw [this]
          exact f5 _ hi2
  · have keep : ∀ a j, a < 87 → (if s < 16 then hm_wI (hm_wI μ5 (87 + 2 + (f + s) % 17) 0 (Int32.ofNat d)) 87 2 (Int32.ofNat (s + 1)) else hm_wI (hm_wI μ5 (87 + 2 + (f + s) % 17) 0 (Int32.ofNat d)) 87 1 (Int32.ofNat ((f + 1) % 17))).1 a j = μ5.1 a j := by
      intro a j ha
      split <;> rw [wI_ne (by omega), wI_ne (by omega)]
    exact ⟨by rw [keep _ _ (by omega)]; exact d2.1, fun i hi => by rw [keep _ _ (by omega)]; exact d2.2.1 i hi, fun i hi => by rw [keep _ _ (by omega), keep _ _ (by omega), keep _ _ (by omega)]; exact d2.2.2.1 i hi, by rw [keep _ _ (by omega)]; exact d2.2.2.2.1, by rw [keep _ _ (by omega)]; exact d2.2.2.2.2⟩
  · have : (if s < 16 then hm_wI (hm_wI μ5 (87 + 2 + (f + s) % 17) 0 (Int32.ofNat d)) 87 2 (Int32.ofNat (s + 1)) else hm_wI (hm_wI μ5 (87 + 2 + (f + s) % 17) 0 (Int32.ofNat d)) 87 1 (Int32.ofNat ((f + 1) % 17))).2 = μ5.2 := by split <;> rfl
    rw [this]
    exact d3.1.trans n2
  · intro a j h1 h2 h3 h4 h5 h6
    have : (if s < 16 then hm_wI (hm_wI μ5 (87 + 2 + (f + s) % 17) 0 (Int32.ofNat d)) 87 2 (Int32.ofNat (s + 1)) else hm_wI (hm_wI μ5 (87 + 2 + (f + s) % 17) 0 (Int32.ofNat d)) 87 1 (Int32.ofNat ((f + 1) % 17))).1 a j = μ5.1 a j := by
      split <;> rw [wI_ne (by omega), wI_ne (by omega)]
    rw [this, fr5 a j h2 h3 h4 h5 h6, n3 _ _ (by omega)]
/-- the component: noted, refused -/
theorem SR9_no {μ : hm_M} {L : List pc_K} {ρ : Nat → Int32} {law : Option Nat} {s d : Nat} {E : Nat → ent} {x y ans : Int32} (h : SR9 μ 87 s E) (hV : VD μ 65 ρ) (l1 : f_X8_lawInForce 65 μ = some law) (hL : LJ μ law L) (hW : hm_ln μ 109 = 8) (h9 : D9 L ρ d x y ans ρ) : ∃ μ3 μ5, f_X7_note 87 65 μ = some μ3 ∧ f_X1_doOne 65 (Int32.ofNat d) x y μ3 = some (ans, μ5) ∧ SR9 μ5 87 s E ∧ VD μ5 65 ρ ∧ μ5.2 = μ.2 ∧ ∀ a j, ¬ (89 ≤ a ∧ a ≤ 105) → ¬ (106 ≤ a ∧ a ≤ 111) → a ≠ 66 → a ≠ 67 → a ≠ 69 → ¬ (a = 70 ∧ j = 0) → μ5.1 a j = μ.1 a j := by
  obtain ⟨f, f1, f2, f3, f4, f5⟩ := h
  obtain ⟨μ3, n1, ⟨n2, n3⟩, n4, n5⟩ := v_note (v := 65) f3 f4 f1 (by omega) (by omega)
  have hr : (f + s) % 17 < 17 := Nat.mod_lt _ (by decide)
  have hv : vO 65 := by unfold vO; omega
  have V3 : VD μ3 65 ρ := ⟨by rw [n3 _ _ (by omega)]; exact hV.1, fun i hi => by rw [n3 _ _ (by omega)]; exact hV.2.1 i hi, fun i hi => by rw [n3 _ _ (by omega), n3 _ _ (by omega), n3 _ _ (by omega)]; exact hV.2.2.1 i hi, by rw [n3 _ _ (by omega)]; exact hV.2.2.2.1, by rw [n3 _ _ (by omega)]; exact hV.2.2.2.2⟩
  have l3 : f_X8_lawInForce 65 μ3 = some law := by
    rw [← l1]
    unfold f_X8_lawInForce f_X8_hasLaw hm_ldR
    rw [n3 _ _ (by omega), n3 _ _ (by omega), show μ3.2.2.1 = μ.2.2.1 from congrArg (fun z => z.2.1) n2]
  have L3 : LJ μ3 law L := by
    rcases hL with h | ⟨p, C, h1, h2, h3, h4⟩
    · exact Or.inl h
    · refine Or.inr ⟨p, C, h1, h2, h3.same (fun a q1 q2 j => n3 a j (by omega)) (congrArg (fun z => z.2.2.2.2) n2), ?_⟩
      have epg : pg9 μ3 p = pg9 μ p := funext fun j => by
        unfold pg9
        rw [n3 _ _ (by omega), n3 _ _ (by omega)]
      rw [epg]
      exact h4
  obtain ⟨μ5, d1, d2, d3⟩ := h9 μ3 65 law V3 hv (by decide) l3 L3 ((congrArg (fun z => z.2.2.2.2 109) n2).trans hW)
  have fr5 : ∀ a j, ¬ (106 ≤ a ∧ a ≤ 111) → a ≠ 66 → a ≠ 67 → a ≠ 69 → ¬ (a = 70 ∧ j = 0) → μ5.1 a j = μ3.1 a j := fun a j h1 h2 h3 h4 h5 => d3.2 a j (by omega) (by omega) (by omega) (by omega) (by omega) (by omega) (by omega) (by omega)
  refine ⟨μ3, μ5, n1, d1, ⟨f, f1, f2, ?_, ?_, fun i hi => ?_⟩, d2, d3.1.trans n2, fun a j h1 h2 h3 h4 h5 h6 => by rw [fr5 a j h2 h3 h4 h5 h6, n3 _ _ (by omega)]⟩
  · rw [fr5 _ _ (by omega) (by omega) (by omega) (by omega) (by omega), n3 _ _ (by omega)]; exact f3
  · rw [fr5 _ _ (by omega) (by omega) (by omega) (by omega) (by omega), n3 _ _ (by omega)]; exact f4
  · have hr2 : (f + i) % 17 < 17 := Nat.mod_lt _ (by decide)
    have ne : (f + i) % 17 ≠ (f + s) % 17 := by omega
    have : μ5.1 (87 + 2 + (f + i) % 17) = μ.1 (87 + 2 + (f + i) % 17) := funext fun j => by
      rw [fr5 _ _ (by omega) (by omega) (by omega) (by omega) (by omega), n3 _ _ (by omega)]
    rw [this]
    exact f5 i hi
end
