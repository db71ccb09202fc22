section
/-! A law told. -/
theorem lawX {μ m : hm_M} {v t X : Nat} {ρ ρ' : Nat → Int32} (h : ∃ p, μ.2.2.1 (v + 6) t = some p ∧ 205 ≤ p ∧ pgl μ p ∧ lawr (μ.1 (p + 1)) (μ.1 (p + 2)) (μ.1 (p + 3)) (μ.1 p 3) (μ.1 p 4) (fun k => ρ (65 + 400 * t + k)) (fun k => ρ (2865 + 400 * t + k)) (ρ (58 + t))) (hp : ∀ p, μ.2.2.1 (v + 6) t = some p → p + 3 < X) (hr : m.2.2.1 (v + 6) t = μ.2.2.1 (v + 6) t) (h1 : ∀ a j, 205 ≤ a → a < X → m.1 a j = μ.1 a j) (hl : ∀ a, a < X → hm_ln m a = hm_ln μ a) (hρ : ρ' (58 + t) = ρ (58 + t) ∧ ∀ k, k < 400 → ρ' (65 + 400 * t + k) = ρ (65 + 400 * t + k) ∧ ρ' (2865 + 400 * t + k) = ρ (2865 + 400 * t + k)) : ∃ p, m.2.2.1 (v + 6) t = some p ∧ 205 ≤ p ∧ pgl m p ∧ lawr (m.1 (p + 1)) (m.1 (p + 2)) (m.1 (p + 3)) (m.1 p 3) (m.1 p 4) (fun k => ρ' (65 + 400 * t + k)) (fun k => ρ' (2865 + 400 * t + k)) (ρ' (58 + t)) := by
  obtain ⟨p, p1, p2, pl, p3⟩ := h
  have hx := hp p p1
  have e9 : ∀ a, 205 ≤ a → a < X → m.1 a = μ.1 a := fun a ha hb => funext fun j => h1 a j ha hb
  refine ⟨p, hr.trans p1, p2, ?_, ?_⟩
  · unfold pgl at pl ⊢
    rw [e9 p p2 (by omega), hl _ (by omega), hl _ (by omega), hl _ (by omega)]
    exact pl
  · rw [e9 (p + 1) (by omega) (by omega), e9 (p + 2) (by omega) (by omega), e9 (p + 3) (by omega) (by omega), e9 p p2 (by omega), hρ.1]
    exact lawr_cong p3 (fun k hk => (hρ.2 k hk).1) (fun k hk => (hρ.2 k hk).2)
theorem VR.keepX {μ m : hm_M} {v X : Nat} {ρ : Nat → Int32} (h : VR μ v ρ) (hp : ∀ t p, t < 6 → μ.2.2.1 (v + 6) t = some p → p + 3 < X) (hr : ∀ t, t < 6 → m.2.2.1 (v + 6) t = μ.2.2.1 (v + 6) t) (h1 : ∀ a j, (v ≤ a ∧ a ≤ v + 9) ∨ (205 ≤ a ∧ a < X) → m.1 a j = μ.1 a j) (hl : ∀ a, a < X → hm_ln m a = hm_ln μ a) : VR m v ρ := by
  obtain ⟨b1, b8, b9, c1, c2, c3, ⟨c4, c5⟩, c6, c7⟩ := h
  have l4 := b1.2.2.2.1.2
  have l5 := b1.2.2.2.2.1.2
  refine ⟨b1, b8, by rw [h1 _ _ (by omega)]; exact b9, by rw [h1 _ _ (by omega)]; exact c1, fun i hi => ?_, ?_, ⟨by rw [h1 _ _ (by omega)]; exact c4, by rw [h1 _ _ (by omega)]; exact c5⟩, seen_same c6 rfl (by omega) (fun _ _ _ => rfl) (fun i _ => ⟨h1 _ _ (by omega), h1 _ _ (by omega), h1 _ _ (by omega)⟩), fun t ht => lawX (c7 t ht) (fun p => hp t p (by omega)) (hr t (by omega)) (fun a j z y => h1 a j (Or.inr ⟨z, y⟩)) hl ⟨rfl, fun _ _ => ⟨rfl, rfl⟩⟩⟩
  · rw [h1 _ _ (by omega), h1 _ _ (by omega), h1 _ _ (by omega), h1 _ _ (by omega)]
    exact c2 i hi
  · rw [h1 _ _ (by omega), h1 _ _ (by omega), h1 _ _ (by omega), h1 _ _ (by omega)]
    exact c3
theorem law_PP {ν : hm_N} {μ m : hm_M} {T : Nat → Nat} {n k : Nat} {C : pc_C} {L : List pc_K} (hL : hm_LL ν μ) (h : PP μ) (hn : n ≤ 400) (hT : ∀ i, i < n → T i < 256) (hk : k < 6) (h56 : μ.1 181 56 = Int32.ofNat k) (ht : pc_text false (tkc T n) (vlc T n) (tmy T n) 12 0 0 [] [] = .ok (C, L))
  (f : ∀ a j, a < hm_nx μ → ¬ (a = 64 ∧ (j = 12 ∨ j = 13 ∨ j = 16)) → ¬ (a = 65 ∧ j = 7) → ¬ (150 ≤ a ∧ a ≤ 154) → ¬ (a = 179 ∧ (j = 0 ∨ (8 ≤ j ∧ j ≤ 10) ∨ j = 13 ∨ j = 14 ∨ (18 ≤ j ∧ j ≤ 21))) → a ≠ 181 → ¬ (188 ≤ a ∧ a ≤ 190) → m.1 a j = μ.1 a j)
  (f1 : ∀ j, j ≠ 56 → j ≠ 58 + k → ¬ (65 + 400 * k ≤ j ∧ j < 65 + 400 * k + tmy T n) → ¬ (2865 + 400 * k ≤ j ∧ j < 2865 + 400 * k + tmy T n) → m.1 181 j = μ.1 181 j)
  (e1 : m.1 64 12 = 0) (e2 : m.1 179 13 = 0) (e3 : m.1 64 13 = m.1 179 14) (e4 : m.1 64 16 = m.1 179 0) (e5 : m.1 65 7 = Int32.ofNat (k + 1)) (e6 : m.1 181 56 = Int32.ofNat (k + 1)) (e7 : m.1 181 (58 + k) = Int32.ofNat (tmy T n)) (e8 : ∀ y, y < tmy T n → m.1 181 (65 + 400 * k + y) = Int32.ofNat (tkc T n y) ∧ m.1 181 (2865 + 400 * k + y) = Int32.ofNat (vlc T n y))
  (g1 : ∀ a t, a ≠ 150 → ¬ (a = 71 ∧ t = k) → a < hm_nx μ → m.2.2.1 a t = μ.2.2.1 a t) (g2 : m.2.2.1 71 k = some (hm_nx μ)) (g3 : ∀ a, a < hm_nx μ → hm_ln m a = hm_ln μ a) (g4 : pgl m (hm_nx μ)) (q : m.1 (hm_nx μ) 3 = Int32.ofNat C.length ∧ m.1 (hm_nx μ) 4 = Int32.ofNat L.length) (q2 : lawc C L (m.1 (hm_nx μ + 1)) (m.1 (hm_nx μ + 2)) (m.1 (hm_nx μ + 3))) : PP m := by
  obtain ⟨a1, a2, a3, a4, a5, a6, a7⟩ := h
  have hx : 205 ≤ hm_nx μ := by
    obtain ⟨rfl, h2, -⟩ := hL
    exact h2
  have hpg : ∀ v, hm_V v → ∀ t p, t < 6 → μ.2.2.1 (v + 6) t = some p → p + 3 < hm_nx μ := fun v hv t p ht hp => by
    have := hL.2.2.2.2.2 v t p hv ht hp
    obtain ⟨rfl, -⟩ := hL
    exact this.2.1
  have hm := (tmy_p T n).2.2
  refine ⟨?_, fun i hi => ?_, a3.same (fun a j z => ?_), a4.same (fun a j z => ?_), ⟨by rw [e1]; exact bd_n (n := 0) (by omega) (by omega), by rw [e1, e2], fun i hi => ?_⟩, ?_, a7.same (fun j => f _ _ (by omega) (by omega) (by omega) (by omega) (by omega) (by omega) (by omega))⟩
  · obtain ⟨⟨b1, b2, b3, b4, b5, b6, b7⟩, b8, b9, c1, c2, c3, ⟨c4, c5⟩, c6, c7⟩ := a1
    have l4 := b4.2
    have r : ∀ j, j < 56 ∨ j = 57 → m.1 181 j = μ.1 181 j := fun j hj => f1 j (by omega) (by omega) (by omega) (by omega)
    have fv : ∀ a j, 65 ≤ a → a ≤ 74 → ¬ (a = 65 ∧ j = 7) → m.1 a j = μ.1 a j := fun a j z z1 z2 => f a j (by omega) (by omega) z2 (by omega) (by omega) (by omega) (by omega)
    refine ⟨⟨?_, fun i hi => ?_, ?_, ?_, ?_, ⟨fun p q hp hq => ?_, fun p q hp => ?_⟩, ?_⟩, ?_, ?_, ?_, fun i hi => ?_, ?_, ⟨?_, ?_⟩, ?_, ?_⟩
    · rw [r 54 (by omega)]; exact b1
    · rw [r i (by omega), r (8 + i) (by omega), r (25 + i) (by omega), r (16 + i) (by omega)]; exact b2 i hi
    · rw [r 24 (by omega), r 51 (by omega), r 52 (by omega), r 53 (by omega)]; exact b3
    · rw [r 55 (by omega)]; exact b4
    · rw [e6]; exact bd_n (by omega) (by omega)
    · rw [r (16 + p) (by omega), r (16 + q) (by omega)]; exact b6.1 p q hp hq
    · rw [r (16 + p) (by omega), r 54 (by omega)]; exact b6.2 p q hp
    · exact rws_same b7 (by rw [r 55 (by omega)]) (by omega) (by rw [r 54 (by omega)]; exact Nat.le_refl _) (fun k _ _ => r k (by omega))
    · unfold rw_force at b8 ⊢
      rw [r 57 (by omega), e6, nat_n (by omega)]
      rw [h56, nat_n (by omega)] at b8
      exact b8.imp id fun z => bd_mono z (by omega)
    · rw [r 57 (by omega), fv _ _ (by omega) (by omega) (by omega)]; exact b9
    · rw [r 54 (by omega), fv _ _ (by omega) (by omega) (by omega)]; exact c1
    · rw [r i (by omega), r (8 + i) (by omega), r (25 + i) (by omega), r (16 + i) (by omega), fv _ _ (by omega) (by omega) (by omega), fv _ _ (by omega) (by omega) (by omega), fv _ _ (by omega) (by omega) (by omega), fv _ _ (by omega) (by omega) (by omega)]; exact c2 i hi
    · rw [r 24 (by omega), r 51 (by omega), r 52 (by omega), r 53 (by omega), fv _ _ (by omega) (by omega) (by omega), fv _ _ (by omega) (by omega) (by omega), fv _ _ (by omega) (by omega) (by omega), fv _ _ (by omega) (by omega) (by omega)]; exact c3
    · rw [r 55 (by omega), fv _ _ (by omega) (by omega) (by omega)]; exact c4
    · rw [e6, e5]
    · exact seen_same c6 (by rw [r 55 (by omega)]) (by omega) (fun k _ _ => r k (by omega)) (fun i _ => ⟨fv _ _ (by omega) (by omega) (by omega), fv _ _ (by omega) (by omega) (by omega), fv _ _ (by omega) (by omega) (by omega)⟩)
    · intro t ht2
      rw [e6, nat_n (by omega)] at ht2
      by_cases z : t = k
      · rw [z]
        refine ⟨hm_nx μ, g2, hx, g4, ?_⟩
        rw [q.1, q.2, e7]
        exact lawr_new hn hT ht (fun y hy => e8 y hy) q2
      · have c := c7 t (by rw [h56, nat_n (by omega)]; omega)
        exact lawX c (fun p hp => hpg 65 (Or.inl rfl) t p (by omega) hp) (g1 _ _ (by omega) (by omega) (by omega)) (fun a j z y => f a j y (by omega) (by omega) (by omega) (by omega) (by omega) (by omega)) g3 ⟨f1 _ (by omega) (by omega) (by omega) (by omega), fun y hy => ⟨f1 _ (by omega) (by omega) (by omega) (by omega), f1 _ (by omega) (by omega) (by omega) (by omega)⟩⟩
  · have e : ∀ j, m.1 182 j = μ.1 182 j := fun j => f _ _ (by omega) (by omega) (by omega) (by omega) (by omega) (by omega) (by omega)
    rw [f 76 i (by omega) (by omega) (by omega) (by omega) (by omega) (by omega) (by omega), f 183 i (by omega) (by omega) (by omega) (by omega) (by omega) (by omega) (by omega)]
    refine ⟨(a2 i hi).1, (a2 i hi).2.imp id fun z => ⟨z.1, ?_⟩⟩
    simp only [e]
    exact z.2.keepX (X := hm_nx μ) (hpg _ (by unfold hm_V; omega)) (fun t _ => g1 _ _ (by omega) (by omega) (by omega)) (fun a j z => f a j (by omega) (by omega) (by omega) (by omega) (by omega) (by omega) (by omega)) g3
  · unfold dD at z; exact f a j (by omega) (by omega) (by omega) (by omega) (by omega) (by omega) (by omega)
  · unfold dS at z
    by_cases y : a = 181
    · rw [y]; exact f1 _ (by omega) (by omega) (by omega) (by omega)
    · exact f a j (by omega) (by omega) (by omega) (by omega) (by omega) (by omega) (by omega)
  · rw [f _ _ (by omega) (by omega) (by omega) (by omega) (by omega) (by omega) (by omega), f _ _ (by omega) (by omega) (by omega) (by omega) (by omega) (by omega) (by omega)]
    exact a5.2.2 i hi
  · unfold PM at a6 ⊢
    have w : ∀ a j, (a = 64 ∧ (j = 14 ∨ j = 15)) ∨ (a = 179 ∧ (j = 6 ∨ j = 46)) ∨ a = 157 ∨ a = 180 → m.1 a j = μ.1 a j := fun a j z => f a j (by omega) (by omega) (by omega) (by omega) (by omega) (by omega) (by omega)
    rw [e3, e4, w 64 14 (by omega), w 64 15 (by omega), w 179 46 (by omega), w 179 6 (by omega), w 157 0 (by omega), w 157 1 (by omega), w 157 2 (by omega), w 157 3 (by omega), w 157 4 (by omega), w 180 1 (by omega), w 180 2 (by omega), w 180 3 (by omega), w 180 5 (by omega), w 180 6 (by omega)]
    exact ⟨⟨rfl, a6.1.2.1, a6.1.2.2.1, rfl⟩, a6.2⟩
theorem rk5 : rk (-5) := Or.inr (Or.inr (Or.inr (Or.inl rfl)))
theorem rk6 : rk (-6) := Or.inr (Or.inr (Or.inr (Or.inr rfl)))
theorem rf_PM2 {k : Int32} (hk : rk k) {μ m : hm_M} (h : PM μ) (e1 : m.1 64 13 = m.1 179 14) (e2 : m.1 64 14 = m.1 179 46) (e3 : m.1 64 15 = m.1 179 6) (e4 : m.1 64 16 = k) (e5 : ∀ j, m.1 157 j = (rf9 k μ).1 157 j) (e6 : ∀ j, m.1 180 j = μ.1 180 j) : PM (rf10 k m) := by
  obtain ⟨-, b1, b2, b3, b4, b5⟩ := h
  unfold PM rf10
  unfold rf9 at e5
  rcases hk with rfl | rfl | rfl | rfl | rfl
  · rw [show rj9 (-1) = 0 from rfl] at e5
    rw [show rj10 (-1) = 1 from rfl]
    simp (disch := omega) only [wI_ne, wI_eq, e5, e6]
    exact ⟨⟨e1, e2, e3, e4⟩, by rw [b1], b2, b3, b4, b5⟩
  · rw [show rj9 (-2) = 1 from rfl] at e5
    rw [show rj10 (-2) = 2 from rfl]
    simp (disch := omega) only [wI_ne, wI_eq, e5, e6]
    exact ⟨⟨e1, e2, e3, e4⟩, b1, by rw [b2], b3, b4, b5⟩
  · rw [show rj9 (-3) = 2 from rfl] at e5
    rw [show rj10 (-3) = 3 from rfl]
    simp (disch := omega) only [wI_ne, wI_eq, e5, e6]
    exact ⟨⟨e1, e2, e3, e4⟩, b1, b2, by rw [b3], b4, b5⟩
  · rw [show rj9 (-5) = 3 from rfl] at e5
    rw [show rj10 (-5) = 5 from rfl]
    simp (disch := omega) only [wI_ne, wI_eq, e5, e6]
    exact ⟨⟨e1, e2, e3, e4⟩, b1, b2, b3, by rw [b4], b5⟩
  · rw [show rj9 (-6) = 4 from rfl] at e5
    rw [show rj10 (-6) = 6 from rfl]
    simp (disch := omega) only [wI_ne, wI_eq, e5, e6]
    exact ⟨⟨e1, e2, e3, e4⟩, b1, b2, b3, b4, by rw [b5]⟩
/-- a text refused -/
theorem text_no {k : Int32} (hk : rk k) {μ m : hm_M} (h : PP μ) (f : ∀ a j, ¬ (a = 64 ∧ (j = 12 ∨ j = 13 ∨ j = 16)) → ¬ (150 ≤ a ∧ a ≤ 154) → ¬ (a = 179 ∧ ((8 ≤ j ∧ j ≤ 10) ∨ j = 13 ∨ j = 14 ∨ (18 ≤ j ∧ j ≤ 21))) → ¬ (188 ≤ a ∧ a ≤ 190) → a ≠ 157 → m.1 a j = μ.1 a j) (eL : hm_ln m = hm_ln μ) (g : ∀ a j, a ≠ 150 → m.2.2.1 a j = μ.2.2.1 a j) (e1 : m.1 64 12 = 0) (e2 : m.1 179 13 = 0) (e3 : m.1 64 13 = m.1 179 14) (e4 : m.1 64 16 = k) (e5 : ∀ j, m.1 157 j = (rf9 k μ).1 157 j) : PP (rf10 k m) := by
  obtain ⟨a1, a2, a3, a4, a5, a6, a7⟩ := h
  have w : ∀ a j, a ≠ 180 → ¬ (a = 179 ∧ j = 0) → (rf10 k m).1 a j = m.1 a j := fun a j z z1 => by
    unfold rf10
    rw [wI_ne (by omega), wI_ne (by omega)]
  have F : ∀ a j, ¬ (a = 64 ∧ (j = 12 ∨ j = 13 ∨ j = 16)) → ¬ (150 ≤ a ∧ a ≤ 154) → ¬ (a = 179 ∧ (j = 0 ∨ (8 ≤ j ∧ j ≤ 10) ∨ j = 13 ∨ j = 14 ∨ (18 ≤ j ∧ j ≤ 21))) → ¬ (188 ≤ a ∧ a ≤ 190) → a ≠ 157 → a ≠ 180 → (rf10 k m).1 a j = μ.1 a j := fun a j z1 z2 z3 z4 z5 z6 => (w a j z6 (by omega)).trans (f a j z1 z2 (by omega) z4 z5)
  have eL' : hm_ln (rf10 k m) = hm_ln μ := eL
  have g' : ∀ a j, a ≠ 150 → (rf10 k m).2.2.1 a j = μ.2.2.1 a j := g
  refine ⟨?_, fun i hi => ?_, a3.same (fun a j z => ?_), a4.same (fun a j z => ?_), ⟨by rw [w _ _ (by omega) (by omega), e1]; exact bd_n (n := 0) (by omega) (by omega), by rw [w _ _ (by omega) (by omega), w _ _ (by omega) (by omega), e1, e2], fun i hi => ?_⟩, ?_, a7.same (fun j => F _ _ (by omega) (by omega) (by omega) (by omega) (by omega) (by omega))⟩
  · have e : (rf10 k m).1 181 = μ.1 181 := funext fun j => F _ _ (by omega) (by omega) (by omega) (by omega) (by omega) (by omega)
    rw [e]
    exact a1.keep eL' (fun t _ => g' _ _ (by omega)) (fun a j z => F _ _ (by omega) (by omega) (by omega) (by omega) (by omega) (by omega))
  · have e : ∀ j, (rf10 k m).1 182 j = μ.1 182 j := fun j => F _ _ (by omega) (by omega) (by omega) (by omega) (by omega) (by omega)
    rw [F 76 i (by omega) (by omega) (by omega) (by omega) (by omega) (by omega), F 183 i (by omega) (by omega) (by omega) (by omega) (by omega) (by omega)]
    refine ⟨(a2 i hi).1, (a2 i hi).2.imp id fun z => ⟨z.1, ?_⟩⟩
    simp only [e]
    exact z.2.keep eL' (fun t _ => g' _ _ (by omega)) (fun a j z => F _ _ (by omega) (by omega) (by omega) (by omega) (by omega) (by omega))
  · unfold dD at z; exact F _ _ (by omega) (by omega) (by omega) (by omega) (by omega) (by omega)
  · unfold dS at z; exact F _ _ (by omega) (by omega) (by omega) (by omega) (by omega) (by omega)
  · rw [F _ _ (by omega) (by omega) (by omega) (by omega) (by omega) (by omega), F _ _ (by omega) (by omega) (by omega) (by omega) (by omega) (by omega)]
    exact a5.2.2 i hi
  · refine rf_PM2 hk a6 e3 ?_ ?_ e4 e5 (fun j => f _ _ (by omega) (by omega) (by omega) (by omega) (by omega))
    · rw [f _ _ (by omega) (by omega) (by omega) (by omega) (by omega), f _ _ (by omega) (by omega) (by omega) (by omega) (by omega)]
      exact a6.1.2.1
    · rw [f _ _ (by omega) (by omega) (by omega) (by omega) (by omega), f _ _ (by omega) (by omega) (by omega) (by omega) (by omega)]
      exact a6.1.2.2.1
theorem rf9_157 {k : Int32} {μ m : hm_M} (h : ∀ j, m.1 157 j = μ.1 157 j) (j : Nat) : (rf9 k m).1 157 j = (rf9 k μ).1 157 j := by
  unfold rf9
  by_cases z : j = rj9 k
  · rw [wI_eq rfl z, wI_eq rfl z, h]
  · rw [wI_ne (by omega), wI_ne (by omega), wI_ne (by omega), wI_ne (by omega), h]
theorem rf9_16 (k : Int32) (μ : hm_M) : (rf9 k μ).1 64 16 = k := by
  unfold rf9
  rw [wI_ne (by omega), wI_at]
theorem pu_law {ν : hm_N} {μ : hm_M} (hL : hm_LL ν μ) (h : PP μ) : ∃ r μ1 μ2, f_X9_law μ = some (r, μ1) ∧ f_X10_law μ1 = some (r, μ2) ∧ PP μ2 := by
  obtain ⟨a1, a2, a3, a4, ⟨t1, t2, t3⟩, a6, a7⟩ := id h
  obtain ⟨n, en, ln⟩ : ∃ n, μ.1 64 12 = Int32.ofNat n ∧ n ≤ 400 := ⟨_, t1.1, by have := t1.2; omega⟩
  have h13 : μ.1 179 13 = Int32.ofNat n := t2.symm.trans en
  have b5 := a1.1.2.2.2.2.1
  obtain ⟨k, ek, lk⟩ : ∃ k, μ.1 181 56 = Int32.ofNat k ∧ k ≤ 6 := ⟨_, b5.1, by have := b5.2; omega⟩
  have e7 : μ.1 65 7 = Int32.ofNat k := a1.2.2.2.2.2.2.1.2.trans ek
  have hx : 205 ≤ hm_nx μ := by
    obtain ⟨rfl, h2, -⟩ := hL
    exact h2
  let T : Nat → Nat := fun i => nat (μ.1 156 i)
  have hT : ∀ i, i < n → T i < 256 ∧ μ.1 156 i = Int32.ofNat (T i) := fun i hi => ⟨(t3 i (by omega)).1.2, (t3 i (by omega)).1.1⟩
  unfold f_X9_law f_X9_emptiedTape
  rw [pI_some, Option.bind_some, b2_some, wI_ne (by omega), e7, en]
  by_cases hk : k < 6
  · rw [if_pos (show Int32.ofNat k < 6 by rw [show (6 : Int32) = Int32.ofNat 6 from rfl, n_lt (by omega) (by omega)]; exact hk)]
    obtain ⟨x, m1, s1, s2, s3⟩ := v_readText (T := T) (n := n) (μ := hm_wI μ 64 12 0) false ln (fun i hi => ⟨(hT i hi).1, by rw [wI_ne (by omega)]; exact (hT i hi).2⟩) (la_a hL (by decide) (a := 152) rfl).2.2.2 (la_a hL (by decide) (a := 153) rfl).2.2.2 (la_a hL (by decide) (a := 154) rfl).2.2.2
    rw [show f_X6_readText (Int32.ofNat n) 1 (hm_wI μ 64 12 0) = _ from s1, b2_some, pI_some, Option.bind_some, wI_at]
    -- the reference's reading, from any memory that has its cells
    have R : ∀ m : hm_M, (∀ a j, a = 186 ∨ a = 185 ∨ (a = 179 ∧ j = 13) → m.1 a j = μ.1 a j) → ∃ x m', f_X10_readsAs (zb false) m = some (x, m') ∧ ft m m' ∧ TK m' T n (tmy T n + 1) ∧ m'.1 179 18 = Int32.ofNat (tmy T n) ∧ m'.1 179 13 = 0 ∧ match pc_text false (tkc T n) (vlc T n) (tmy T n) 12 0 0 [] [] with
      | .error e => x = 0 ∧ m'.1 179 14 = Int32.ofNat (tst T n e) ∧ e ≤ tmy T n
      | .ok _ => x = 1 ∧ m'.1 179 14 = -1 := fun m hm => v_readsAs false ⟨ln, fun i hi => ⟨(hT i hi).1, by rw [hm _ _ (by omega)]; exact (t3 i (by omega)).2⟩⟩ (a7.same fun j => hm _ _ (by omega)) (by rw [hm _ _ (by omega)]; exact h13)
    have hm := (tmy_p T n).2.2
    generalize hr : pc_text false (tkc T n) (vlc T n) (tmy T n) 12 0 0 [] [] = r at s3 R
    have k1 : ∀ a j, ¬ (a = 64 ∧ j = 12) → ¬ (a = 150 ∧ 2 ≤ j ∧ j ≤ 9) → ¬ (a = 151 ∧ (3 ≤ j ∧ j ≤ 5)) → a ≠ 152 → a ≠ 153 → a ≠ 154 → m1.1 a j = μ.1 a j := fun a j z z1 z2 z3 z4 z5 => by rw [s2.2 a j z1 z2 z3 z4 z5, wI_ne z]
    match r, s3, R with
    | .error e, s3, R =>
      obtain ⟨rfl, he⟩ := s3
      have hs := tst_le T n e
      rw [if_neg (show ¬ Int32.ofNat (tst T n e) = -1 by rw [i_eq, n_toInt (by omega)]; show ¬ ((tst T n e : Nat) : Int) = -1; omega), v_rf9 rk6]
      obtain ⟨x, m', r1, r2, r3, r4, r5, r6, r7, -⟩ := R (rf9 (-6) (hm_wI m1 64 13 (Int32.ofNat (tst T n e)))) (fun a j z => by rw [rf9_ne (by omega), wI_ne (by omega)]; exact k1 a j (by omega) (by omega) (by omega) (by omega) (by omega) (by omega))
      refine ⟨_, _, rf10 (-6) m', rfl, ?_, text_no rk6 h (fun a j z1 z2 z3 z4 z5 => ?_) ?_ (fun a j z => ?_) ?_ r5 ?_ ?_ fun j => ?_⟩
      · unfold f_X10_law
        rw [show (56 : Int32) = Int32.ofNat 56 from rfl, ld_n (by omega) (by decide), Option.bind_some, rf9_ne (by omega), wI_ne (by omega), k1 _ _ (by omega) (by omega) (by omega) (by omega) (by omega) (by omega), ek, if_neg (show ¬ Int32.ofNat k = 6 by rw [show (6 : Int32) = Int32.ofNat 6 from rfl, n_eq (by omega) (by omega)]; omega), show ∀ m, f_X10_readsAs 0 m = f_X10_readsAs (zb false) m from fun _ => rfl, r1, b2_some, r6, if_pos rfl, v_rf10 rk6, b2_some]
      · rw [r2.2 a j (by omega) (by omega) (by omega) (by omega), rf9_ne (by omega), wI_ne (by omega)]
        exact k1 a j (by omega) (by omega) (by omega) (by omega) (by omega) (by omega)
      · show m'.2.2.2.2.2 = _
        rw [r2.1]
        show m1.2.2.2.2.2 = _
        rw [s2.1]
        rfl
      · rw [r2.1]
        show m1.2.2.1 a j = _
        rw [s2.1]
        exact wR_n (by omega)
      · rw [r2.2 _ _ (by omega) (by omega) (by omega) (by omega), rf9_ne (by omega), wI_ne (by omega), s2.2 _ _ (by omega) (by omega) (by omega) (by omega) (by omega), wI_at]
      · rw [r2.2 _ _ (by omega) (by omega) (by omega) (by omega), rf9_ne (by omega), wI_at, r7]
      · rw [r2.2 _ _ (by omega) (by omega) (by omega) (by omega), rf9_16]
      · rw [r2.2 _ _ (by omega) (by omega) (by omega) (by omega)]
        exact rf9_157 (fun j => by rw [wI_ne (by omega)]; exact k1 _ _ (by omega) (by omega) (by omega) (by omega) (by omega) (by omega)) j
    | .ok (C, L), s3, R =>
      obtain ⟨rfl, ⟨hC, hLn⟩, ⟨c3, c4, c5⟩, cl⟩ := s3
      rw [if_pos rfl]
      have nx1 : hm_nx (hm_wI m1 64 13 (-1)) = hm_nx μ := by
        show m1.2.2.2.1 = _
        rw [s2.1]
        rfl
      have ln1 : hm_ln (hm_wI m1 64 13 (-1)) = hm_ln μ := by
        show m1.2.2.2.2.2 = _
        rw [s2.1]
        rfl
      obtain ⟨m4, q1, q2, q3, q4, q5, q6⟩ := v_trim (μ := hm_wI m1 64 13 (-1)) hC hLn (by rw [wI_ne (by omega)]; exact c3) (by rw [wI_ne (by omega)]; exact c4) (by rw [wI_ne (by omega)]; exact fl5_01 c5) (by rw [ln1]; exact (la_a hL (by decide) (a := 152) rfl).2.2.2) (by rw [ln1]; exact (la_a hL (by decide) (a := 153) rfl).2.2.2) (by rw [ln1]; exact (la_a hL (by decide) (a := 154) rfl).2.2.2) (by rw [nx1]; exact hx)
      rw [q1, Option.bind_some]
      rw [nx1] at q3 q4 q5 q6 ⊢
      have k4 : ∀ a j, a < hm_nx μ → ¬ (a = 64 ∧ (j = 12 ∨ j = 13)) → ¬ (150 ≤ a ∧ a ≤ 154) → m4.1 a j = μ.1 a j := fun a j z z1 z2 => by
        rw [q3 a j z, wI_ne (by omega)]
        exact k1 a j (by omega) (by omega) (by omega) (by omega) (by omega) (by omega)
      unfold f_X8_addLaw
      rw [k4 65 7 (by omega) (by omega) (by omega), e7, if_pos (show Int32.ofNat k < 6 by rw [show (6 : Int32) = Int32.ofNat 6 from rfl, n_lt (by omega) (by omega)]; omega), sdR_n hk (by decide), Option.bind_some, pI_some, Option.bind_some, b2_some, wI_at, wR_1, k4 65 7 (by omega) (by omega) (by omega), e7, show (1 : Int32) = Int32.ofNat 1 from rfl, n_add, n_sub (by omega), v_gr9]
      generalize hm6 : hm_wI (hm_wI (hm_wR m4 (65 + 6) k (some (hm_nx μ))) 65 7 (Int32.ofNat (k + 1))) 64 16 0 = m6
      have w6 : ∀ a j, ¬ (a = 64 ∧ j = 16) → ¬ (a = 65 ∧ j = 7) → m6.1 a j = m4.1 a j := fun a j z z1 => by rw [← hm6, wI_ne z, wI_ne z1, wR_1]
      obtain ⟨x, m7, r1, r2, r3, r4, r5, r6, r7⟩ := R m6 (fun a j z => by rw [w6 _ _ (by omega) (by omega)]; exact k4 a j (by omega) (by omega) (by omega))
      have w7 : m7.1 181 56 = Int32.ofNat k := by rw [r2.2 _ _ (by omega) (by omega) (by omega) (by omega), w6 _ _ (by omega) (by omega), k4 _ _ (by omega) (by omega) (by omega), ek]
      obtain ⟨m8, u1, u2, u3, u4, u5, u6⟩ := v_lays (μ := m7) (g := k) (N := tmy T n) (by omega) (by omega) r4
      refine ⟨_, m6, hm_wI (hm_wI m8 181 56 (Int32.ofNat (k + 1))) 179 0 0, rfl, ?_, ?_⟩
      · unfold f_X10_law
        rw [show (56 : Int32) = Int32.ofNat 56 from rfl, ld_n (by omega) (by decide), Option.bind_some, w6 _ _ (by omega) (by omega), k4 _ _ (by omega) (by omega) (by omega), ek, if_neg (show ¬ Int32.ofNat k = 6 by rw [show (6 : Int32) = Int32.ofNat 6 from rfl, n_eq (by omega) (by omega)]; omega), show ∀ m, f_X10_readsAs 0 m = f_X10_readsAs (zb false) m from fun _ => rfl, r1, b2_some, r6, if_neg (show ¬ (1 : Int32) = 0 by decide), ld_n (by omega) (by decide), Option.bind_some, w7, u1, Option.bind_some, ld_n (by omega) (by decide), Option.bind_some, u4 _ (by omega) (by omega) (by omega), w7, sd_n (by omega) (by decide), Option.bind_some, ld_n (by omega) (by decide), Option.bind_some, wI_at, show (1 : Int32) = Int32.ofNat 1 from rfl, n_add, n_sub (by omega), v_gd10, b2_some]
      · have w8 : ∀ a j, a ≠ 181 → ¬ (a = 179 ∧ j = 0) → (hm_wI (hm_wI m8 181 56 (Int32.ofNat (k + 1))) 179 0 0).1 a j = m7.1 a j := fun a j z z1 => by rw [wI_ne (by omega), wI_ne (by omega), u3 a j z]
        have w9 : ∀ a j, a ≠ 181 → ¬ (a = 179 ∧ (j = 0 ∨ (8 ≤ j ∧ j ≤ 10) ∨ j = 13 ∨ j = 14 ∨ (18 ≤ j ∧ j ≤ 21))) → ¬ (188 ≤ a ∧ a ≤ 190) → ¬ (a = 64 ∧ j = 16) → ¬ (a = 65 ∧ j = 7) → (hm_wI (hm_wI m8 181 56 (Int32.ofNat (k + 1))) 179 0 0).1 a j = m4.1 a j := fun a j z z1 z2 z3 z4 => by rw [w8 a j z (by omega), r2.2 a j (by omega) (by omega) (by omega) (by omega), w6 a j z3 z4]
        have rr : ∀ a j, (hm_wI (hm_wI m8 181 56 (Int32.ofNat (k + 1))) 179 0 0).2.2.1 a j = (hm_wR m4 (65 + 6) k (some (hm_nx μ))).2.2.1 a j := fun a j => by
          show m8.2.2.1 a j = _
          rw [u2, r2.1, ← hm6]
          rfl
        have rl : hm_ln (hm_wI (hm_wI m8 181 56 (Int32.ofNat (k + 1))) 179 0 0) = hm_ln m4 := by
          show m8.2.2.2.2.2 = _
          rw [u2, r2.1, ← hm6]
          rfl
        have sl : ∀ b, hm_ln m4 b = if b = hm_nx μ + 3 then L.length * 6 else if b = hm_nx μ + 2 then C.length else if b = hm_nx μ + 1 then C.length else if b = hm_nx μ then 0 else hm_ln μ b := fun b => by
          show m4.2.2.2.2.2 b = _
          rw [q2]
          have := hm_i5_l (hm_wI m1 64 13 (-1)) C.length L.length b
          rw [nx1, ln1] at this
          rw [nx1]
          exact this
        have sr : ∀ a j, a < hm_nx μ → a ≠ 150 → m4.2.2.1 a j = μ.2.2.1 a j := fun a j z z1 => by
          rw [q2, hm_i5_R, nx1, if_neg (by omega), if_neg (by omega), if_neg (by omega), if_neg (by omega), if_neg (by omega), if_neg (by omega), if_neg (by omega)]
          show m1.2.2.1 a j = _
          rw [s2.1]
          exact wR_n (by omega)
        refine law_PP hL h ln (fun i hi => (hT i hi).1) hk ek hr (fun a j z z1 z2 z3 z4 z5 z6 => ?_) (fun j z z1 z2 z3 => ?_) ?_ ?_ ?_ ?_ ?_ ?_ ?_ (fun y hy => ?_) (fun a t z z1 z2 => ?_) ?_ (fun a ha => ?_) ?_ ⟨?_, ?_⟩ ?_
        · rw [w9 a j z5 z4 z6 (by omega) z2]
          exact k4 a j z (by omega) z3
        · rw [wI_ne (by omega), wI_ne (by omega), u4 j z1 z2 z3, r2.2 _ _ (by omega) (by omega) (by omega) (by omega), w6 _ _ (by omega) (by omega), k4 _ _ (by omega) (by omega) (by omega)]
        · rw [w9 _ _ (by omega) (by omega) (by omega) (by omega) (by omega), q3 _ _ (by omega), wI_ne (by omega), s2.2 _ _ (by omega) (by omega) (by omega) (by omega) (by omega), wI_at]
        · rw [w8 _ _ (by omega) (by omega), r5]
        · rw [w9 _ _ (by omega) (by omega) (by omega) (by omega) (by omega), w8 _ _ (by omega) (by omega), q3 _ _ (by omega), wI_at, r7]
        · rw [wI_at, wI_ne (by omega), wI_ne (by omega), u3 _ _ (by omega), r2.2 _ _ (by omega) (by omega) (by omega) (by omega), ← hm6, wI_at]
        · rw [w8 _ _ (by omega) (by omega), r2.2 _ _ (by omega) (by omega) (by omega) (by omega), ← hm6, wI_ne (by omega), wI_at]
        · rw [wI_ne (by omega), wI_at]
        · rw [wI_ne (by omega), wI_ne (by omega)]; exact u5
        · rw [wI_ne (by omega), wI_ne (by omega), wI_ne (by omega), wI_ne (by omega), (u6 y hy).1, (u6 y hy).2]
          exact (r3 y (by omega)).2
        · rw [rr, wR_n (by omega), sr a t z2 z]
        · rw [rr, wR_e rfl rfl]
        · rw [rl, sl, if_neg (by omega), if_neg (by omega), if_neg (by omega), if_neg (by omega)]
        · unfold pgl
          rw [w9 _ _ (by omega) (by omega) (by omega) (by omega) (by omega), w9 _ _ (by omega) (by omega) (by omega) (by omega) (by omega), q4.1, q4.2, nat_n (by omega), nat_n (by omega), rl, sl, sl, sl, if_neg (by omega), if_neg (by omega), if_pos rfl, if_neg (by omega), if_pos rfl, if_pos rfl]
          exact ⟨rfl, rfl, Nat.mul_comm _ _⟩
        · rw [w9 _ _ (by omega) (by omega) (by omega) (by omega) (by omega), q4.1]
        · rw [w9 _ _ (by omega) (by omega) (by omega) (by omega) (by omega), q4.2]
        · refine ⟨fun i x hi => ?_, fun i x hi => ?_⟩
          · have hl := (List.getElem?_eq_some_iff.mp hi).1
            have c := cl.1 i x hi
            rw [w9 _ _ (by omega) (by omega) (by omega) (by omega) (by omega), w9 _ _ (by omega) (by omega) (by omega) (by omega) (by omega), (q5 i hl).1, (q5 i hl).2, wI_ne (by omega), wI_ne (by omega)]
            exact c
          · have hl := (List.getElem?_eq_some_iff.mp hi).1
            have c := cl.2 i x hi
            have e : ∀ j, j < 6 * L.length → (hm_wI (hm_wI m8 181 56 (Int32.ofNat (k + 1))) 179 0 0).1 (hm_nx μ + 3) j = m1.1 154 j := fun j hj => by
              rw [w9 _ _ (by omega) (by omega) (by omega) (by omega) (by omega), q6 j hj, wI_ne (by omega)]
            rw [e _ (by omega), e _ (by omega), e _ (by omega), e _ (by omega), e _ (by omega), e _ (by omega)]
            exact c
  · rw [if_neg (show ¬ Int32.ofNat k < 6 by rw [show (6 : Int32) = Int32.ofNat 6 from rfl, n_lt (by omega) (by omega)]; exact hk)]
    have ek6 : k = 6 := by omega
    rw [v_rf9 rk5]
    refine ⟨_, _, rf10 (-5) (hm_wI (rf9 (-5) (hm_wI μ 64 12 0)) 179 13 0), rfl, ?_, text_no rk5 h (fun a j z1 z2 z3 z4 z5 => ?_) rfl (fun a j z => rfl) ?_ (wI_at _ _ _ _) ?_ ?_ fun j => ?_⟩
    · unfold f_X10_law
      rw [show (56 : Int32) = Int32.ofNat 56 from rfl, ld_n (by omega) (by decide), Option.bind_some, rf9_ne (by omega), wI_ne (by omega), ek, ek6, if_pos (show Int32.ofNat 6 = 6 from rfl), pI_some, Option.bind_some, v_rf10 rk5, b2_some]
    · rw [wI_ne (by omega), rf9_ne (by omega), wI_ne (by omega)]
    · rw [wI_ne (by omega), rf9_ne (by omega), wI_at]
    · rw [wI_ne (by omega), wI_ne (by omega), rf9_ne (by omega), rf9_ne (by omega), wI_ne (by omega), wI_ne (by omega)]
      exact a6.1.1
    · rw [wI_ne (by omega), rf9_16]
    · rw [wI_ne (by omega)]
      exact rf9_157 (fun j => wI_ne (by omega)) j
end
