section
/-! Drawn by who was seen, and solved. -/
variable {μ : hm_M} {ν : hm_N} {n : Nat}
theorem pop64_le (A : Nat) : pop64 A ≤ 64 := by
  have h : ∀ x, pop (x % 256) ≤ 8 := fun x => pop_le _ (Nat.mod_lt _ (by decide))
  have a1 := h A
  have a2 := h (A / 256)
  have a3 := h (A / 256 / 256)
  have a4 := h (A / 256 / 256 / 256)
  have a5 := h (A / 256 / 256 / 256 / 256)
  have a6 := h (A / 256 / 256 / 256 / 256 / 256)
  have a7 := h (A / 256 / 256 / 256 / 256 / 256 / 256)
  have a8 := h (A / 256 / 256 / 256 / 256 / 256 / 256 / 256)
  unfold pop64
  generalize pop (A % 256) = x1 at *
  generalize pop (A / 256 % 256) = x2 at *
  generalize pop (A / 256 / 256 % 256) = x3 at *
  generalize pop (A / 256 / 256 / 256 % 256) = x4 at *
  generalize pop (A / 256 / 256 / 256 / 256 % 256) = x5 at *
  generalize pop (A / 256 / 256 / 256 / 256 / 256 % 256) = x6 at *
  generalize pop (A / 256 / 256 / 256 / 256 / 256 / 256 % 256) = x7 at *
  generalize pop (A / 256 / 256 / 256 / 256 / 256 / 256 / 256 % 256) = x8 at *
  clear h
  omega
theorem seen_ok (h : PP μ) (hn' : nat (μ.1 181 54) = n) (hn : n ≤ 8) : ∃ (lo hi : Nat → Nat) (is : Nat → Int32) (K : Nat), K ≤ 6 ∧ μ.1 65 12 = Int32.ofNat K ∧ (∀ k, lo k < 7 ∧ hi k < 8) ∧ (∀ k, k < K → μ.1 72 k = Int32.ofNat (lo k) ∧ μ.1 73 k = Int32.ofNat (hi k) ∧ μ.1 74 k = is k ∧ lo k < hi k ∧ hi k < n) ∧ nat (μ.1 181 55) = K ∧ (∀ i, i < K → ((nat (μ.1 181 (33 + 3 * i)) = lo i ∧ nat (μ.1 181 (34 + 3 * i)) = hi i) ∨ (nat (μ.1 181 (33 + 3 * i)) = hi i ∧ nat (μ.1 181 (34 + 3 * i)) = lo i)) ∧ μ.1 181 (35 + 3 * i) = is i ∧ (is i = 0 ∨ is i = 1)) := by
  have b55 : bd (μ.1 181 55) 7 := h.1.1.2.2.2.1
  have rs : rw_seen (μ.1 181) := h.1.1.2.2.2.2.2.2
  have e12 : μ.1 65 12 = μ.1 181 55 := h.1.2.2.2.2.2.2.1.1
  have vs : vb_seen μ 65 (μ.1 181) := h.1.2.2.2.2.2.2.2.1
  have key : ∀ k, k < nat (μ.1 181 55) → (μ.1 72 k = Int32.ofNat (nat (μ.1 72 k)) ∧ μ.1 73 k = Int32.ofNat (nat (μ.1 73 k)) ∧ nat (μ.1 72 k) < nat (μ.1 73 k) ∧ nat (μ.1 73 k) < n) ∧ ((nat (μ.1 181 (33 + 3 * k)) = nat (μ.1 72 k) ∧ nat (μ.1 181 (34 + 3 * k)) = nat (μ.1 73 k)) ∨ (nat (μ.1 181 (33 + 3 * k)) = nat (μ.1 73 k) ∧ nat (μ.1 181 (34 + 3 * k)) = nat (μ.1 72 k))) ∧ μ.1 181 (35 + 3 * k) = μ.1 74 k ∧ (μ.1 74 k = 0 ∨ μ.1 74 k = 1) := fun k hk => by
    obtain ⟨b1, b2, -, b4⟩ := rs k hk
    obtain ⟨v1, v2⟩ := vs k hk
    rw [hn'] at b1 b2
    have v2 : μ.1 74 k = μ.1 181 (35 + 3 * k) := v2
    have v4 : μ.1 74 k = 0 ∨ μ.1 74 k = 1 := by
      rw [v2, b4.1]
      have := b4.2
      generalize nat (μ.1 181 (35 + 3 * k)) = x at *
      rcases (show x = 0 ∨ x = 1 by omega) with e | e
      · rw [e]; exact Or.inl rfl
      · rw [e]; exact Or.inr rfl
    rcases v1 with ⟨z, y1, y2⟩ | ⟨z, y1, y2⟩
    · have y1 : μ.1 72 k = μ.1 181 (33 + 3 * k) := y1
      have y2 : μ.1 73 k = μ.1 181 (34 + 3 * k) := y2
      rw [b1.1, b2.1, n_lt (by have := b1.2; omega) (by have := b2.2; omega)] at z
      rw [y1, y2]
      exact ⟨⟨b1.1, b2.1, z, b2.2⟩, Or.inl ⟨rfl, rfl⟩, v2.symm, v4⟩
    · have y1 : μ.1 72 k = μ.1 181 (34 + 3 * k) := y1
      have y2 : μ.1 73 k = μ.1 181 (33 + 3 * k) := y2
      rw [b1.1, b2.1, n_lt (by have := b2.2; omega) (by have := b1.2; omega)] at z
      rw [y1, y2]
      exact ⟨⟨b2.1, b1.1, z, b1.2⟩, Or.inr ⟨rfl, rfl⟩, v2.symm, v4⟩
  refine ⟨fun k => if k < nat (μ.1 181 55) then nat (μ.1 72 k) else 0, fun k => if k < nat (μ.1 181 55) then nat (μ.1 73 k) else 0, fun k => μ.1 74 k, nat (μ.1 181 55), by have := b55.2; omega, by rw [e12]; exact b55.1, fun k => ?_, fun k hk => ?_, rfl, fun k hk => ?_⟩
  · by_cases hk : k < nat (μ.1 181 55)
    · have := (key k hk).1
      simp only [if_pos hk]
      omega
    · simp only [if_neg hk]
      omega
  · have := (key k hk).1
    simp only [if_pos hk]
    exact ⟨this.1, this.2.1, trivial, this.2.2⟩
  · have := (key k hk).2
    simp only [if_pos hk]
    exact this
/-- a row fits what was seen exactly when it costs what it must -/
def FTc (n : Nat) (c0 c : Nat → Nat → Nat) (ρ : Nat → Int32) (P : Nat) : Prop := ∀ r, r ∈ rws n (n - 1) 1 → n ≤ pth false (cc8 c) 0 0 r + P ∧ ((finr c0 0 r && soP n ρ r) = true ↔ pth false (cc8 c) 0 0 r + P = n)
theorem core_seen {law : Option Nat} {L : List pc_K} (hL : hm_LL ν μ) (h : PP μ) (hn' : nat (μ.1 181 54) = n) (l2 : LJ μ law L) : ∃ (c : Nat → Nat → Nat) (P : Nat) (m4 m6 : hm_M) (tb : tbl), f_X0_drawSeen 65 law μ = some (Int32.ofNat n - Int32.ofNat P, m4) ∧ f_X0_solve (zb false) m4 = some m6 ∧ fE μ m6 ∧ m6.1 145 5 = Int32.ofNat n ∧ m6.1 145 6 = zb false ∧ CT m6 n c ∧ MT m6 n tb ∧ INV false c n (2 ^ n) tb ∧ c9 c ∧ (∀ a b, c a b = c b a) ∧ P ≤ 64 ∧ (3 ≤ n → FTc n (cc8 (dC 0 L (μ.1 181))) c (μ.1 181) P) := by
  have hW := ln_109 hL
  have hR := h.1.1.d.b
  have b54 := h.1.1.1
  have h0 : μ.1 65 0 = Int32.ofNat n := by rw [← hn']; exact h.1.2.2.2.1.trans b54.1
  have hn : n ≤ 8 := by rw [← hn']; have := b54.2; omega
  obtain ⟨lo, hi, is, K, k1, k2, k3, k4, k5, k6⟩ := seen_ok h hn' hn
  obtain ⟨m3, d1, d2, d3, d4⟩ := v_draw (bb := 2) (L := L) (by omega) hn h0 hR h.1.2.2.2.j l2 hW
  have h1 : ∀ a b, dC 2 L (μ.1 181) a b = 1 ∨ dC 2 L (μ.1 181) a b = 1000000 := fun a b => by
    rw [dC2]
    split
    · exact Or.inl rfl
    · exact Or.inr rfl
  have hs2 := dC_cm 2 L (μ.1 181)
  have q : ∀ a j, a = 65 ∨ a = 72 ∨ a = 73 ∨ a = 74 → m3.1 a j = μ.1 a j := fun a j z => d2.2 a j (by omega) (by omega) (by omega) (by omega)
  obtain ⟨m4, s1, s2, s3⟩ := v_dSeen (law := law) (lo := lo) (hi := hi) (is := is) hn d3 d4 h1 hs2 k1 (by rw [q _ _ (Or.inl rfl)]; exact k2) k3 fun k hk => by
    rw [q 72 k (by omega), q 73 k (by omega), q 74 k (by omega)]
    exact k4 k hk
  have hc : c9 (cSk lo hi is (dC 2 L (μ.1 181)) K) := fun a b _ _ => by
    rcases cSk_v (lo := lo) (hi := hi) (is := is) h1 K a b with e | e | e <;> rw [e] <;> omega
  have g5 : m4.1 145 5 = Int32.ofNat n := by rw [s3.2 _ _ (by omega)]; exact d3
  obtain ⟨m6, tb, t1, t2, t3, t4, t5⟩ := v_solve (w := false) hn g5 s2 hc
  refine ⟨_, pop64 (aSk lo hi is K), m4, m6, tb, ?_, t1, ⟨t4.1.trans (s3.1.trans d2.1), fun a j z1 z2 z3 z4 => ?_⟩, ?_, t5, fun a b ha hb hab => ?_, t2, t3, hc, cSk_cm hs2 K, pop64_le _, fun h3 r hr => ?_⟩
  · unfold f_X0_drawSeen
    rw [show f_X0_draw 65 law 2 μ = _ from d1, Option.bind_some]
    exact s1
  · rw [t4.2 a j (by omega) (by omega) (by omega), s3.2 a j (by omega)]
    exact d2.2 a j z1 z2 z3 z4
  · rw [t4.2 _ _ (by omega) (by omega) (by omega)]; exact g5
  · rw [t4.2 _ _ (by omega) (by omega) (by omega)]; exact s2 a b ha hb hab
  · obtain ⟨r1, r2, r3⟩ := mem_rws.mp hr
    refine fit_iff h3 hn (by omega) r2 (fun x hx e => ?_) (fun i => ?_) h1 (cc_fin L hR) (fun i hi1 => (k4 i hi1).2.2.2) k5 k6
    · have := (r3 x hx).2
      rw [e] at this
      cases this
    · unfold rowg
      rcases Nat.lt_or_ge i (0 :: r).length with y | y
      · rw [List.getD_eq_getElem?_getD, List.getElem?_eq_getElem y]
        show (0 :: r)[i] < n
        rcases List.mem_cons.mp (List.getElem_mem y) with e | e
        · rw [e]; omega
        · exact (r3 _ e).1
      · rw [List.getD_eq_getElem?_getD, List.getElem?_eq_none y]
        show 0 < n
        omega
variable {m : hm_M} {c : Nat → Nat → Nat} {tb : tbl}
theorem v_hasR {P : Nat} (hn : n ≤ 8) (h5 : m.1 145 5 = Int32.ofNat n) (h6 : m.1 145 6 = zb false) (hC : CT m n c) (hc : c9 c) (hs : ∀ a b, c a b = c b a) (hM : MT m n tb) (hV : INV false c n (2 ^ n) tb) (hP : P ≤ 64) : f_X0_hasRound (Int32.ofNat n - Int32.ofNat P) m = some (zb (decide (3 ≤ n ∧ Hc false (cc8 c) n (n - 1) 1 0 + P = n))) := by
  have h256 := p256 hn
  have hp1 : 1 ≤ 2 ^ n := Nat.one_le_two_pow
  have hT := INV_TB hn hc (fun S l hS hl => (hM S l hS hl).2.2) hV
  unfold f_X0_hasRound
  rcases Nat.lt_or_ge n P with y | y
  · have : Int32.ofNat n - Int32.ofNat P < 0 := by
      have : ∀ n, n < 9 → ∀ P, P < 65 → n < P → Int32.ofNat n - Int32.ofNat P < 0 := by decide +kernel
      exact this n (by omega) P (by omega) y
    rw [if_pos this, decide_eq_false (by omega)]
    rfl
  · rw [n_sub y, if_neg (n_nn (by omega)), v_evb hn h5, Option.bind_some, v_lr hn h5 h6 hC hc hM (by omega), Option.bind_some]
    by_cases h3 : 3 ≤ n
    · obtain ⟨k, hk⟩ : ∃ k, n = k + 2 := ⟨n - 2, by omega⟩
      rw [rd_all hn hk h3 hc hs hT, show n - 1 = k + 1 by omega]
      have hI := Hc_I (w := false) (n := n) (cc8_I hc) (k + 1) 1 0
      generalize Hc false (cc8 c) n (k + 1) 1 0 = H at *
      by_cases z : H = 1000000
      · rw [z, show cm 1000000 = -1 from rfl, if_neg (fun e => absurd e.symm (by rw [i_eq, n_toInt (by omega)]; show ¬ ((n - P : Nat) : Int) = -1; omega)), decide_eq_false (by omega)]
        rfl
      · rw [show cm H = Int32.ofNat H from if_neg z]
        by_cases e : H = n - P
        · rw [e, if_pos rfl, decide_eq_true (by omega)]
          rfl
        · rw [if_neg (by rw [n_eq (by omega) (by omega)]; exact e), decide_eq_false (by omega)]
          rfl
    · have e1 : rdc false c n (t1 tb) (2 ^ n - 1) = 1000000 := by
        unfold rdc
        rw [(all_p n hn).1, if_neg h3]
      rw [e1, show cm 1000000 = -1 from rfl, if_neg (fun e => absurd e.symm (by rw [i_eq, n_toInt (by omega)]; show ¬ ((n - P : Nat) : Int) = -1; omega)), decide_eq_false (by omega)]
      rfl
end
