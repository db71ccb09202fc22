/-! Copies. -/
def cpm (μ : hm_M) (A s B d N : Nat) : hm_M := ((fun b => if b = B then va_cpy (μ.1 A) (μ.1 B) s d N else μ.1 b), μ.2)
theorem cpm_eq {μ : hm_M} {A s B d N b k : Nat} (h1 : b = B) (h2 : d ≤ k) (h3 : k < d + N) : (cpm μ A s B d N).1 b k = μ.1 A (s + (k - d)) := by
  show (if b = B then va_cpy (μ.1 A) (μ.1 B) s d N else μ.1 b) k = _
  rw [if_pos h1]
  exact if_pos ⟨h2, h3⟩
theorem cpm_ne {μ : hm_M} {A s B d N b k : Nat} (h : ¬ (b = B ∧ d ≤ k ∧ k < d + N)) : (cpm μ A s B d N).1 b k = μ.1 b k := by
  show (if b = B then va_cpy (μ.1 A) (μ.1 B) s d N else μ.1 b) k = _
  by_cases e : b = B
  · rw [if_pos e, e]
    exact if_neg fun z => h ⟨e, z.1, z.2⟩
  · rw [if_neg e]
theorem cpm_r (μ : hm_M) (A s B d N : Nat) : (cpm μ A s B d N).2 = μ.2 := rfl
theorem wR_1 (μ : hm_M) (a j : Nat) (v : Option Nat) : (hm_wR μ a j v).1 = μ.1 := rfl
theorem cp_n {μ : hm_M} {a0 L0 a1 L1 s d n : Nat} (h0 : s + n ≤ L0) (h1 : d + n ≤ L1) (l0 : L0 < 2147483648) (l1 : L1 < 2147483648) : hm_cp μ a0 L0 (Int32.ofNat s) a1 L1 (Int32.ofNat d) (Int32.ofNat n) = some (cpm μ a0 s a1 d n) := by
  have e1 := n_cl (n := s) (by omega)
  have e2 := n_cl (n := d) (by omega)
  have e3 := n_cl (n := n) (by omega)
  unfold hm_cp
  rw [if_neg, e1, e2, e3]
  · rfl
  · rw [e1, e2, e3]
    rintro (z | z | z | z | z)
    · exact n_nn (by omega) z
    · exact n_nn (by omega) z
    · exact n_nn (by omega) z
    · omega
    · omega
theorem cpm_0 (μ : hm_M) (A s B d : Nat) : cpm μ A s B d 0 = μ := by
  have e : (cpm μ A s B d 0).1 = μ.1 := by
    funext b k
    exact cpm_ne (by omega)
  exact Prod.ext e rfl
theorem cpm_s {μ : hm_M} {A s B d k : Nat} (h : A ≠ B ∨ d ≤ s) : hm_wI (cpm μ A s B d k) B (d + k) ((cpm μ A s B d k).1 A (s + k)) = cpm μ A s B d (k + 1) := by
  have e : (hm_wI (cpm μ A s B d k) B (d + k) ((cpm μ A s B d k).1 A (s + k))).1 = (cpm μ A s B d (k + 1)).1 := by
    funext b j
    by_cases e1 : b = B ∧ j = d + k
    · rw [wI_eq e1.1 e1.2, cpm_eq (N := k + 1) e1.1 (by omega) (by omega), cpm_ne (N := k) (by omega), show s + (j - d) = s + k by omega]
    · rw [wI_ne e1]
      by_cases e2 : b = B ∧ d ≤ j ∧ j < d + k
      · rw [cpm_eq e2.1 e2.2.1 e2.2.2, cpm_eq e2.1 e2.2.1 (by omega)]
      · rw [cpm_ne e2, cpm_ne (by omega)]
  exact Prod.ext e rfl
/-- a loop that copies -/
theorem cpy_loop {R : Type} {L : Nat → Int32 → hm_M → Option R} {e : hm_M → Option R} {A s B d N fuel : Nat} (hd : A ≠ B ∨ d ≤ s) (hs : ∀ n k μ1, k < N → L (n + 1) (Int32.ofNat k) μ1 = L n (Int32.ofNat (k + 1)) (hm_wI μ1 B (d + k) (μ1.1 A (s + k)))) (he : ∀ n μ1, L (n + 1) (Int32.ofNat N) μ1 = e μ1) (hf : N < fuel) (μ : hm_M) : L fuel (Int32.ofNat 0) μ = e (cpm μ A s B d N) := by
  refine lo2 (L := L) (fun k y μ1 => y = Int32.ofNat k ∧ μ1 = cpm μ A s B d k) (fun o => o = e (cpm μ A s B d N)) N (fun k y μ1 hk hI => Or.inl ?_) (fun y μ1 hI n => ?_) hf ⟨rfl, (cpm_0 μ A s B d).symm⟩
  · obtain ⟨rfl, rfl⟩ := hI
    exact ⟨_, _, ⟨rfl, rfl⟩, fun n => by rw [hs n k _ hk, cpm_s hd]⟩
  · obtain ⟨rfl, rfl⟩ := hI
    exact he n _
theorem wR_e {μ : hm_M} {a j b k : Nat} {v : Option Nat} (h1 : b = a) (h2 : k = j) : (hm_wR μ a j v).2.2.1 b k = v := if_pos ⟨h1, h2⟩
theorem wR_n {μ : hm_M} {a j b k : Nat} {v : Option Nat} (h : ¬ (b = a ∧ k = j)) : (hm_wR μ a j v).2.2.1 b k = μ.2.2.1 b k := if_neg h
theorem sdR_n {μ : hm_M} {a L n : Nat} {x : Option Nat} (h : n < L) (hL : L < 2147483648) : hm_sdR μ a L (Int32.ofNat n) x = some (hm_wR μ a n x) := by
  have h2 := n_cl (n := n) (by omega)
  unfold hm_sdR
  rw [if_neg, h2]
  rw [h2]
  rintro (z | z)
  · exact n_nn (by omega) z
  · omega
/-- refs copied -/
def cpR (μ : hm_M) (A B N : Nat) : hm_M := (μ.1, μ.2.1, (fun b k => if b = B ∧ k < N then μ.2.2.1 A k else μ.2.2.1 b k), μ.2.2.2)
theorem cpR_1 (μ : hm_M) (A B N : Nat) : (cpR μ A B N).1 = μ.1 := rfl
theorem v_copy {o v : Nat} (hov : o + 9 < v ∨ v + 9 < o) (μ : hm_M) : ∃ μ', f_X8_copyFrom o v μ = some μ' ∧ (μ'.2.1 = μ.2.1 ∧ μ'.2.2.2 = μ.2.2.2) ∧ (∀ a j, ¬ (o ≤ a ∧ a ≤ o + 9) → μ'.1 a j = μ.1 a j) ∧ (μ'.1 o 0 = μ.1 v 0 ∧ μ'.1 o 7 = μ.1 v 7 ∧ μ'.1 o 8 = μ.1 v 8 ∧ μ'.1 o 12 = μ.1 v 12) ∧ (∀ i, i < 8 → μ'.1 (o + 1) i = μ.1 (v + 1) i ∧ μ'.1 (o + 2) i = μ.1 (v + 2) i ∧ μ'.1 (o + 3) i = μ.1 (v + 3) i ∧ μ'.1 (o + 4) i = μ.1 (v + 4) i) ∧ (∀ i, i < 4 → μ'.1 (o + 5) i = μ.1 (v + 5) i) ∧ (∀ i, i < 6 → μ'.1 (o + 7) i = μ.1 (v + 7) i ∧ μ'.1 (o + 8) i = μ.1 (v + 8) i ∧ μ'.1 (o + 9) i = μ.1 (v + 9) i) ∧ (∀ t, t < 6 → μ'.2.2.1 (o + 6) t = μ.2.2.1 (v + 6) t) ∧ ∀ a t, a ≠ o + 6 → μ'.2.2.1 a t = μ.2.2.1 a t := by
  have loop : ∀ (e : hm_M → Option hm_M) (m : hm_M), f_X8_copyFrom_L84 o v e hm_fu (Int32.ofNat 0) m = e (cpR m (v + 6) (o + 6) 6) := by
    intro e m
    refine lo2 (L := f_X8_copyFrom_L84 o v e) (fun k y μ1 => y = Int32.ofNat k ∧ μ1 = cpR m (v + 6) (o + 6) k) (fun r => r = e (cpR m (v + 6) (o + 6) 6)) 6 (fun k y μ1 hk hI => Or.inl ?_) (fun y μ1 hI n => ?_) (fu_lt (by decide)) ⟨rfl, ?_⟩
    · obtain ⟨rfl, rfl⟩ := hI
      refine ⟨_, _, ⟨rfl, rfl⟩, fun n => ?_⟩
      simp (disch := omega) only [f_X8_copyFrom_L84, ldR_n, sdR_n, n_lit, i_lt, i_le, i_eq, n_toInt, n_neg, if_pos, if_neg, if_true, if_false, Option.bind_some, b2_some, pI_some, ld_n, sd_n, n_add, n_mul, n_sub, wI_ne, wI_eq, wI_r, wR_1, cpm_ne, cpm_eq, cpm_r, rf9_ne, and_true, true_and, rz_n0, rz_n1, pZ_n0, pZ_n1, v_rf9n, v_rf10n, -Int32.reduceOfNat]
      congr 1
      have e3 : (hm_wR (cpR m (v + 6) (o + 6) k) (o + 6) k ((cpR m (v + 6) (o + 6) k).2.2.1 (v + 6) k)).2.2.1 = (cpR m (v + 6) (o + 6) (k + 1)).2.2.1 := by
        funext b j
        by_cases z : b = o + 6 ∧ j = k
        · rw [wR_e z.1 z.2]
          show (if v + 6 = o + 6 ∧ k < k then m.2.2.1 (v + 6) k else m.2.2.1 (v + 6) k) = if b = o + 6 ∧ j < k + 1 then m.2.2.1 (v + 6) j else m.2.2.1 b j
          rw [if_neg (by omega), if_pos (by omega), z.2]
        · rw [wR_n z]
          show (if b = o + 6 ∧ j < k then m.2.2.1 (v + 6) j else m.2.2.1 b j) = if b = o + 6 ∧ j < k + 1 then m.2.2.1 (v + 6) j else m.2.2.1 b j
          by_cases z2 : b = o + 6 ∧ j < k
          · rw [if_pos z2, if_pos (by omega)]
          · rw [if_neg z2, if_neg (by omega)]
      exact congrArg (fun z => (m.1, m.2.1, z, m.2.2.2)) e3
    · obtain ⟨rfl, rfl⟩ := hI
      simp (disch := omega) only [f_X8_copyFrom_L84, n_lit, i_lt, i_le, i_eq, n_toInt, n_neg, if_pos, if_neg, if_true, if_false, Option.bind_some, b2_some, pI_some, ld_n, sd_n, n_add, n_mul, n_sub, wI_ne, wI_eq, wI_r, wR_1, cpm_ne, cpm_eq, cpm_r, rf9_ne, and_true, true_and, rz_n0, rz_n1, pZ_n0, pZ_n1, v_rf9n, v_rf10n, -Int32.reduceOfNat]
    · have : (cpR m (v + 6) (o + 6) 0).2.2.1 = m.2.2.1 := by
        funext b j
        exact if_neg (by omega)
      exact (congrArg (fun z => (m.1, m.2.1, z, m.2.2.2)) this).symm
  refine ⟨_, (by
    simp (disch := omega) only [f_X8_copyFrom, cp_n, loop, cpR_1, n_lit, i_lt, i_le, i_eq, n_toInt, n_neg, if_pos, if_neg, if_true, if_false, Option.bind_some, b2_some, pI_some, ld_n, sd_n, n_add, n_mul, n_sub, wI_ne, wI_eq, wI_r, wR_1, cpm_ne, cpm_eq, cpm_r, rf9_ne, and_true, true_and, rz_n0, rz_n1, pZ_n0, pZ_n1, v_rf9n, v_rf10n, -Int32.reduceOfNat]
    rfl), ⟨?_, ?_⟩, fun a j ha => ?_, ⟨?_, ?_, ?_, ?_⟩, fun i hi => ⟨?_, ?_, ?_, ?_⟩, fun i hi => ?_, fun i hi => ⟨?_, ?_, ?_⟩, fun t ht => ?_, fun a t ha => ?_⟩
  all_goals first
    | rfl
    | (simp (disch := omega) only [wI_ne, wI_eq, cpm_ne, cpm_eq, cpR_1, Nat.zero_add, Nat.sub_zero]; done)
    | skip
  · exact if_pos ⟨rfl, ht⟩
  · exact if_neg fun z => ha z.1
