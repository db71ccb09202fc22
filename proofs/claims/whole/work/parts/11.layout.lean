/-! Where the cells lie. -/
abbrev hm_N : Type := Option Nat × Nat × (Nat → Nat) × (Nat → Nat)
def hm_K0 : List (Nat × Nat) := [(9, 19), (8, 13), (13, 8), (13, 8), (13, 8), (13, 8), (13, 4), (16, 6), (13, 6), (13, 6), (13, 6), (17, 2), (15, 2), (8, 13), (13, 8), (13, 8), (13, 8), (13, 8), (13, 4), (16, 6), (13, 6), (13, 6), (13, 6), (7, 3), (18, 17), (13, 26), (13, 26), (13, 26), (13, 26), (13, 26), (13, 26), (13, 26), (13, 26), (13, 26), (13, 26), (13, 26), (13, 26), (13, 26), (13, 26), (13, 26), (13, 26), (13, 26), (3, 1), (4, 3), (13, 64), (13, 8), (1, 2), (13, 8), (2, 7), (4, 3), (13, 64), (13, 21), (8, 13), (13, 8), (13, 8), (13, 8), (13, 8), (13, 4), (16, 6), (13, 6), (13, 6), (13, 6), (7, 3), (18, 17), (13, 26), (13, 26), (13, 26), (13, 26), (13, 26), (13, 26), (13, 26), (13, 26), (13, 26), (13, 26), (13, 26), (13, 26), (13, 26), (13, 26), (13, 26), (13, 26), (13, 26), (0, 7), (13, 64), (13, 2048), (13, 2048), (13, 8), (6, 10), (5, 6), (13, 400), (13, 400), (13, 72), (12, 0), (12, 400), (13, 5), (14, 20), (8, 13), (13, 8), (13, 8), (13, 8), (13, 8), (13, 4), (16, 6), (13, 6), (13, 6), (13, 6), (8, 13), (13, 8), (13, 8), (13, 8), (13, 8), (13, 4), (16, 6), (13, 6), (13, 6), (13, 6), (10, 56), (13, 7), (13, 5665), (13, 11330), (15, 2), (13, 50), (11, 143), (11, 400), (13, 5), (13, 401), (13, 401), (13, 401), (13, 8), (13, 8), (13, 416), (13, 416), (13, 8), (13, 64), (13, 8), (13, 8), (13, 64), (13, 2048), (13, 256), (14, 21), (14, 2), (13, 25)]
def hm_R0 : List (Nat × Nat × Nat) := [(64, 0, 65), (64, 1, 75), (64, 2, 76), (64, 3, 77), (64, 5, 87), (64, 6, 106), (64, 7, 110), (64, 8, 112), (64, 9, 145), (64, 10, 150), (64, 11, 156), (64, 17, 157), (64, 18, 158), (65, 1, 66), (65, 2, 67), (65, 3, 68), (65, 4, 69), (65, 5, 70), (65, 6, 71), (65, 9, 72), (65, 10, 73), (65, 11, 74), (75, 0, 159), (75, 1, 169), (77, 1, 78), (77, 2, 79), (77, 3, 80), (77, 4, 81), (77, 5, 82), (77, 6, 83), (77, 9, 84), (77, 10, 85), (77, 11, 86), (87, 0, 88), (88, 0, 89), (88, 1, 90), (88, 2, 91), (88, 3, 92), (88, 4, 93), (88, 5, 94), (88, 6, 95), (88, 7, 96), (88, 8, 97), (88, 9, 98), (88, 10, 99), (88, 11, 100), (88, 12, 101), (88, 13, 102), (88, 14, 103), (88, 15, 104), (88, 16, 105), (106, 0, 107), (107, 0, 109), (107, 1, 108), (110, 0, 106), (110, 1, 111), (112, 0, 106), (112, 1, 110), (112, 2, 113), (112, 3, 116), (112, 4, 126), (113, 0, 115), (113, 1, 114), (116, 1, 117), (116, 2, 118), (116, 3, 119), (116, 4, 120), (116, 5, 121), (116, 6, 122), (116, 9, 123), (116, 10, 124), (116, 11, 125), (126, 0, 127), (127, 0, 128), (127, 1, 129), (127, 2, 130), (127, 3, 131), (127, 4, 132), (127, 5, 133), (127, 6, 134), (127, 7, 135), (127, 8, 136), (127, 9, 137), (127, 10, 138), (127, 11, 139), (127, 12, 140), (127, 13, 141), (127, 14, 142), (127, 15, 143), (127, 16, 144), (145, 0, 106), (145, 1, 146), (145, 2, 147), (145, 3, 148), (145, 4, 149), (150, 0, 151), (151, 0, 152), (151, 1, 153), (151, 2, 154), (159, 1, 160), (159, 2, 161), (159, 3, 162), (159, 4, 163), (159, 5, 164), (159, 6, 165), (159, 9, 166), (159, 10, 167), (159, 11, 168), (169, 1, 170), (169, 2, 171), (169, 3, 172), (169, 4, 173), (169, 5, 174), (169, 6, 175), (169, 9, 176), (169, 10, 177), (169, 11, 178), (179, 1, 180), (179, 2, 181), (179, 3, 182), (179, 4, 183), (179, 5, 184), (179, 7, 185), (179, 11, 186), (179, 12, 187), (179, 15, 188), (179, 16, 189), (179, 17, 190), (179, 26, 191), (179, 30, 192), (179, 31, 193), (179, 32, 194), (179, 34, 195), (179, 35, 196), (179, 36, 197), (179, 37, 198), (179, 40, 199), (179, 43, 200), (179, 44, 201), (179, 45, 202), (179, 52, 203), (179, 53, 204)]
def hm_V (v : Nat) : Prop := v = 65 ∨ v = 77 ∨ v = 116 ∨ v = 159 ∨ v = 169
def hm_S (v : Nat) : Prop := v = 87 ∨ v = 126
def hm_Q (v : Nat) : Prop := v = 107 ∨ v = 113
def hm_pg (ν : hm_N) (p : Nat) : Prop := 64 ≤ p ∧ p + 3 < ν.2.1 ∧ ν.2.2.1 p = 5 ∧ ν.2.2.1 (p + 1) = 13 ∧ ν.2.2.1 (p + 2) = 13 ∧ ν.2.2.1 (p + 3) = 13
def hm_LL (ν : hm_N) (μ : hm_M) : Prop := (μ.2.2.1 150 1, μ.2.2.2) = ν ∧ 205 ≤ ν.2.1 ∧ (∀ (i : Nat) (q : Nat × Nat), hm_K0[i]? = some q → ν.2.2.1 (64 + i) = q.1 ∧ ν.2.2.2 (64 + i) = q.2) ∧ (∀ (i : Nat) (q : Nat × Nat × Nat), hm_R0[i]? = some q → μ.2.2.1 q.1 q.2.1 = some q.2.2) ∧ (∀ p, hm_pg ν p → μ.2.2.1 p 0 = some (p + 1) ∧ μ.2.2.1 p 1 = some (p + 2) ∧ μ.2.2.1 p 2 = some (p + 3)) ∧ (∀ v i p, hm_V v → i < 6 → μ.2.2.1 (v + 6) i = some p → hm_pg ν p)
section HML
variable {ν : hm_N} {μ μ1 : hm_M}
theorem hm_LL.same (h : hm_LL ν μ) (h1 : μ1.2.2 = μ.2.2) : hm_LL ν μ1 := by
  unfold hm_LL at h ⊢
  rw [h1]
  exact h
theorem hm_sd_s {a L : Nat} {i x : Int32} (e : hm_sd μ a L i x = some μ1) : μ1.2.2 = μ.2.2 := by
  rcases hm_is e with ⟨-, e⟩ | ⟨hc, e⟩
  · cases e
  · cases e; rfl
theorem hm_sdJ_s {a L : Nat} {i : Int32} {x : Int64} (e : hm_sdJ μ a L i x = some μ1) : μ1.2.2 = μ.2.2 := by
  rcases hm_is e with ⟨-, e⟩ | ⟨hc, e⟩
  · cases e
  · cases e; rfl
theorem hm_pI_s {a k : Nat} {x : Int32} (e : hm_pI μ a k x = some μ1) : μ1.2.2 = μ.2.2 := by cases e; rfl
theorem hm_pZ_s {a k : Nat} {x : Int32} (e : hm_pZ μ a k x = some μ1) : μ1.2.2 = μ.2.2 := by
  rcases hm_is e with ⟨hc, e⟩ | ⟨-, e⟩
  · cases e; rfl
  · cases e
theorem la_o (hL : hm_LL ν μ) {a c n : Nat} (h64 : 64 ≤ a) (h : hm_K0[a - 64]? = some (c, n)) : hm_at μ a c := by
  obtain ⟨rfl, h2, h3, -⟩ := hL
  have hl := (List.getElem?_eq_some_iff.mp h).1
  have h4 : hm_K0.length = 141 := rfl
  have := (h3 _ _ h).1
  rw [show 64 + (a - 64) = a by omega] at this
  exact ⟨h64, by show a < μ.2.2.2.1; have : 205 ≤ μ.2.2.2.1 := h2; omega, this⟩
theorem la_a (hL : hm_LL ν μ) {a k L : Nat} (h64 : 64 ≤ a) (h : hm_K0[a - 64]? = some (k, L)) : hm_ar μ a k L := by
  obtain ⟨rfl, h2, h3, -⟩ := hL
  have hl := (List.getElem?_eq_some_iff.mp h).1
  have h4 : hm_K0.length = 141 := rfl
  have := h3 _ _ h
  rw [show 64 + (a - 64) = a by omega] at this
  exact ⟨h64, by show a < μ.2.2.2.1; have : 205 ≤ μ.2.2.2.1 := h2; omega, this.1, this.2⟩
theorem la_r (hL : hm_LL ν μ) {a j b : Nat} (i : Nat) (h : hm_R0[i]? = some (a, j, b)) : va_rf (μ.2.2.1 a j) = .ref b := by
  rw [hL.2.2.2.1 i _ h]
  rfl
theorem la_po (hL : hm_LL ν μ) {p : Nat} (h : hm_pg ν p) : hm_at μ p 5 := by
  obtain ⟨rfl, -⟩ := hL
  exact ⟨h.1, by show p < μ.2.2.2.1; have : p + 3 < μ.2.2.2.1 := h.2.1; omega, h.2.2.1⟩
theorem la_pa1 (hL : hm_LL ν μ) {p : Nat} (h : hm_pg ν p) : hm_ar μ (p + 1) 13 (hm_ln μ (p + 1)) := by
  obtain ⟨rfl, -⟩ := hL
  exact ⟨by have := h.1; omega, by show p + 1 < μ.2.2.2.1; have : p + 3 < μ.2.2.2.1 := h.2.1; omega, h.2.2.2.1, rfl⟩
theorem la_pa2 (hL : hm_LL ν μ) {p : Nat} (h : hm_pg ν p) : hm_ar μ (p + 2) 13 (hm_ln μ (p + 2)) := by
  obtain ⟨rfl, -⟩ := hL
  exact ⟨by have := h.1; omega, by show p + 2 < μ.2.2.2.1; have : p + 3 < μ.2.2.2.1 := h.2.1; omega, h.2.2.2.2.1, rfl⟩
theorem la_pa3 (hL : hm_LL ν μ) {p : Nat} (h : hm_pg ν p) : hm_ar μ (p + 3) 13 (hm_ln μ (p + 3)) := by
  obtain ⟨rfl, -⟩ := hL
  exact ⟨by have := h.1; omega, by show p + 3 < μ.2.2.2.1; have : p + 3 < μ.2.2.2.1 := h.2.1; omega, h.2.2.2.2.2, rfl⟩
theorem la_pr0 (hL : hm_LL ν μ) {p : Nat} (h : hm_pg ν p) : va_rf (μ.2.2.1 p 0) = .ref (p + 1) := by rw [(hL.2.2.2.2.1 p h).1]; rfl
theorem la_pr1 (hL : hm_LL ν μ) {p : Nat} (h : hm_pg ν p) : va_rf (μ.2.2.1 p 1) = .ref (p + 2) := by rw [(hL.2.2.2.2.1 p h).2.1]; rfl
theorem la_pr2 (hL : hm_LL ν μ) {p : Nat} (h : hm_pg ν p) : va_rf (μ.2.2.1 p 2) = .ref (p + 3) := by rw [(hL.2.2.2.2.1 p h).2.2]; rfl
theorem la_pg151 (hL : hm_LL ν μ) : hm_pg ν 151 := by
  obtain ⟨rfl, h2, h3, -⟩ := hL
  exact ⟨by decide, by show 151 + 3 < μ.2.2.2.1; have : 205 ≤ μ.2.2.2.1 := h2; omega, (h3 87 _ rfl).1, (h3 88 _ rfl).1, (h3 89 _ rfl).1, (h3 90 _ rfl).1⟩
theorem la_vo (hL : hm_LL ν μ) {v : Nat} (h : hm_V v) : hm_at μ v 8 := by rcases h with rfl | rfl | rfl | rfl | rfl <;> exact la_o hL (by decide) rfl
theorem la_v1 (hL : hm_LL ν μ) {v : Nat} (h : hm_V v) : va_rf (μ.2.2.1 v 1) = .ref (v + 1) := by
  rcases h with rfl | rfl | rfl | rfl | rfl
  · exact la_r hL 13 rfl
  · exact la_r hL 24 rfl
  · exact la_r hL 63 rfl
  · exact la_r hL 99 rfl
  · exact la_r hL 108 rfl
theorem la_va1 (hL : hm_LL ν μ) {v : Nat} (h : hm_V v) : hm_ar μ (v + 1) 13 8 := by rcases h with rfl | rfl | rfl | rfl | rfl <;> exact la_a hL (by decide) rfl
theorem la_v2 (hL : hm_LL ν μ) {v : Nat} (h : hm_V v) : va_rf (μ.2.2.1 v 2) = .ref (v + 2) := by
  rcases h with rfl | rfl | rfl | rfl | rfl
  · exact la_r hL 14 rfl
  · exact la_r hL 25 rfl
  · exact la_r hL 64 rfl
  · exact la_r hL 100 rfl
  · exact la_r hL 109 rfl
theorem la_va2 (hL : hm_LL ν μ) {v : Nat} (h : hm_V v) : hm_ar μ (v + 2) 13 8 := by rcases h with rfl | rfl | rfl | rfl | rfl <;> exact la_a hL (by decide) rfl
theorem la_v3 (hL : hm_LL ν μ) {v : Nat} (h : hm_V v) : va_rf (μ.2.2.1 v 3) = .ref (v + 3) := by
  rcases h with rfl | rfl | rfl | rfl | rfl
  · exact la_r hL 15 rfl
  · exact la_r hL 26 rfl
  · exact la_r hL 65 rfl
  · exact la_r hL 101 rfl
  · exact la_r hL 110 rfl
theorem la_va3 (hL : hm_LL ν μ) {v : Nat} (h : hm_V v) : hm_ar μ (v + 3) 13 8 := by rcases h with rfl | rfl | rfl | rfl | rfl <;> exact la_a hL (by decide) rfl
theorem la_v4 (hL : hm_LL ν μ) {v : Nat} (h : hm_V v) : va_rf (μ.2.2.1 v 4) = .ref (v + 4) := by
  rcases h with rfl | rfl | rfl | rfl | rfl
  · exact la_r hL 16 rfl
  · exact la_r hL 27 rfl
  · exact la_r hL 66 rfl
  · exact la_r hL 102 rfl
  · exact la_r hL 111 rfl
theorem la_va4 (hL : hm_LL ν μ) {v : Nat} (h : hm_V v) : hm_ar μ (v + 4) 13 8 := by rcases h with rfl | rfl | rfl | rfl | rfl <;> exact la_a hL (by decide) rfl
theorem la_v5 (hL : hm_LL ν μ) {v : Nat} (h : hm_V v) : va_rf (μ.2.2.1 v 5) = .ref (v + 5) := by
  rcases h with rfl | rfl | rfl | rfl | rfl
  · exact la_r hL 17 rfl
  · exact la_r hL 28 rfl
  · exact la_r hL 67 rfl
  · exact la_r hL 103 rfl
  · exact la_r hL 112 rfl
theorem la_va5 (hL : hm_LL ν μ) {v : Nat} (h : hm_V v) : hm_ar μ (v + 5) 13 4 := by rcases h with rfl | rfl | rfl | rfl | rfl <;> exact la_a hL (by decide) rfl
theorem la_v6 (hL : hm_LL ν μ) {v : Nat} (h : hm_V v) : va_rf (μ.2.2.1 v 6) = .ref (v + 6) := by
  rcases h with rfl | rfl | rfl | rfl | rfl
  · exact la_r hL 18 rfl
  · exact la_r hL 29 rfl
  · exact la_r hL 68 rfl
  · exact la_r hL 104 rfl
  · exact la_r hL 113 rfl
theorem la_va6 (hL : hm_LL ν μ) {v : Nat} (h : hm_V v) : hm_ar μ (v + 6) 16 6 := by rcases h with rfl | rfl | rfl | rfl | rfl <;> exact la_a hL (by decide) rfl
theorem la_v9 (hL : hm_LL ν μ) {v : Nat} (h : hm_V v) : va_rf (μ.2.2.1 v 9) = .ref (v + 7) := by
  rcases h with rfl | rfl | rfl | rfl | rfl
  · exact la_r hL 19 rfl
  · exact la_r hL 30 rfl
  · exact la_r hL 69 rfl
  · exact la_r hL 105 rfl
  · exact la_r hL 114 rfl
theorem la_va9 (hL : hm_LL ν μ) {v : Nat} (h : hm_V v) : hm_ar μ (v + 7) 13 6 := by rcases h with rfl | rfl | rfl | rfl | rfl <;> exact la_a hL (by decide) rfl
theorem la_v10 (hL : hm_LL ν μ) {v : Nat} (h : hm_V v) : va_rf (μ.2.2.1 v 10) = .ref (v + 8) := by
  rcases h with rfl | rfl | rfl | rfl | rfl
  · exact la_r hL 20 rfl
  · exact la_r hL 31 rfl
  · exact la_r hL 70 rfl
  · exact la_r hL 106 rfl
  · exact la_r hL 115 rfl
theorem la_va10 (hL : hm_LL ν μ) {v : Nat} (h : hm_V v) : hm_ar μ (v + 8) 13 6 := by rcases h with rfl | rfl | rfl | rfl | rfl <;> exact la_a hL (by decide) rfl
theorem la_v11 (hL : hm_LL ν μ) {v : Nat} (h : hm_V v) : va_rf (μ.2.2.1 v 11) = .ref (v + 9) := by
  rcases h with rfl | rfl | rfl | rfl | rfl
  · exact la_r hL 21 rfl
  · exact la_r hL 32 rfl
  · exact la_r hL 71 rfl
  · exact la_r hL 107 rfl
  · exact la_r hL 116 rfl
theorem la_va11 (hL : hm_LL ν μ) {v : Nat} (h : hm_V v) : hm_ar μ (v + 9) 13 6 := by rcases h with rfl | rfl | rfl | rfl | rfl <;> exact la_a hL (by decide) rfl
theorem la_so (hL : hm_LL ν μ) {v : Nat} (h : hm_S v) : hm_at μ v 7 := by rcases h with rfl | rfl <;> exact la_o hL (by decide) rfl
theorem la_s0 (hL : hm_LL ν μ) {v : Nat} (h : hm_S v) : va_rf (μ.2.2.1 v 0) = .ref (v + 1) := by
  rcases h with rfl | rfl
  · exact la_r hL 33 rfl
  · exact la_r hL 72 rfl
theorem la_sa0 (hL : hm_LL ν μ) {v : Nat} (h : hm_S v) : hm_ar μ (v + 1) 18 17 := by rcases h with rfl | rfl <;> exact la_a hL (by decide) rfl
theorem la_srow (hL : hm_LL ν μ) {v : Nat} (h : hm_S v) {i : Int32} {x : Option Nat} (e : hm_ldR μ (v + 1) 17 i = some x) : x = some (v + 2 + i.toNatClampNeg) ∧ hm_ar μ (v + 2 + i.toNatClampNeg) 13 26 := by
  rcases hm_is e with ⟨-, e⟩ | ⟨hc, e⟩
  · cases e
  · cases e
    have hlt : i.toNatClampNeg < 17 := Nat.not_le.mp fun q => hc (Or.inr q)
    generalize i.toNatClampNeg = k at hlt ⊢
    have key : ∀ k, k < 17 → (hm_R0[34 + k]? = some (88, k, 89 + k) ∧ hm_K0[89 + k - 64]? = some (13, 26)) ∧ (hm_R0[73 + k]? = some (127, k, 128 + k) ∧ hm_K0[128 + k - 64]? = some (13, 26)) := by decide
    rcases h with rfl | rfl
    · exact ⟨hL.2.2.2.1 _ _ (key k hlt).1.1, la_a hL (by omega) (key k hlt).1.2⟩
    · exact ⟨hL.2.2.2.1 _ _ (key k hlt).2.1, la_a hL (by omega) (key k hlt).2.2⟩
theorem la_qo (hL : hm_LL ν μ) {v : Nat} (h : hm_Q v) : hm_at μ v 4 := by rcases h with rfl | rfl <;> exact la_o hL (by decide) rfl
theorem la_q0 (hL : hm_LL ν μ) {v : Nat} (h : hm_Q v) : va_rf (μ.2.2.1 v 0) = .ref (v + 2) := by
  rcases h with rfl | rfl
  · exact la_r hL 52 rfl
  · exact la_r hL 61 rfl
theorem la_q1 (hL : hm_LL ν μ) {v : Nat} (h : hm_Q v) : va_rf (μ.2.2.1 v 1) = .ref (v + 1) := by
  rcases h with rfl | rfl
  · exact la_r hL 53 rfl
  · exact la_r hL 62 rfl
theorem la_qa1 (hL : hm_LL ν μ) {v : Nat} (h : hm_Q v) : hm_ar μ (v + 1) 13 64 := by rcases h with rfl | rfl <;> exact la_a hL (by decide) rfl
theorem la_qa0 (hL : hm_LL ν μ) {v : Nat} (h : hm_Q v) : hm_ar μ (v + 2) 13 (hm_ln μ (v + 2)) := by
  rcases h with rfl | rfl
  · have := la_a hL (a := 109) (by decide) rfl
    exact ⟨this.1, this.2.1, this.2.2.1, rfl⟩
  · have := la_a hL (a := 115) (by decide) rfl
    exact ⟨this.1, this.2.1, this.2.2.1, rfl⟩
end HML
