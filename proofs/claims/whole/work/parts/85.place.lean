section
/-! The component's words. -/
def sWs : List (List Nat) := [[1, 2, 3], [22, 24, 26, 28], [23, 25, 27], [8, 9, 10, 11, 12, 13, 15, 14], [15, 16, 17, 18, 19, 20, 21], [4], [29], [5], [6], [7]]
def sPs : List (List Nat) := [[0, 6, 12, 17], [0, 5, 11, 16, 21], [0, 5, 10, 13], [0, 4, 10, 15, 19, 23, 29, 33, 38], [0, 4, 9, 16, 22, 27, 32, 38], [0, 3], [0, 6], [0, 3], [0, 4], [0, 4]]
def sW (v j : Nat) : Nat := (sWs.getD v []).getD j 0
def sP (v j : Nat) : Nat := (sPs.getD v []).getD j 0
def sN (v : Nat) : Nat := (sWs.getD v []).length
def sC (v j : Nat) : Int32 := (hm_sB.getD v []).getD j 0
theorem s_tab : ∀ v, v < 10 → sP v 0 = 0 ∧ hm_sL.getD v 0 + 1 = sP v (sN v) ∧ sN v ≤ 8 ∧ hm_sL.getD v 0 < 40 := by decide +kernel
theorem s_wrd : ∀ v, v < 10 → ∀ j, j < sN v → (1 ≤ sW v j ∧ sW v j ≤ 29) ∧ sP v (j + 1) = sP v j + wL (sW v j - 1) + 1 ∧ sP v (j + 1) ≤ hm_sL.getD v 0 + 1 ∧ (j + 1 < sN v → sC v (sP v j + wL (sW v j - 1)) = 32) := by decide +kernel
theorem s_end : ∀ v, v < 10 → ∀ j, j < sN v → (sP v (j + 1) = hm_sL.getD v 0 + 1 ↔ j + 1 = sN v) := by decide +kernel
theorem s_let : ∀ v, v < 10 → ∀ j, j < sN v → ∀ t, t < wL (sW v j - 1) → sC v (sP v j + t) = Int32.ofNat (wB (wP (sW v j - 1) + t)) := by decide +kernel
def plx : List Nat → Nat → Nat → Int32
  | [], _, _ => -1
  | x :: l, c, k => if c = x then Int32.ofNat k else plx l c (k + 1)
def plc (v c : Nat) : Int32 := plx (sWs.getD v []) c 0
theorem plx_at {c : Nat} : ∀ (l : List Nat) (j k : Nat), j < l.length → l.getD j 0 = c → (∀ i, i < j → l.getD i 0 ≠ c) → plx l c k = Int32.ofNat (k + j)
  | [], j, k, h, _, _ => absurd h (Nat.not_lt_zero _)
  | x :: l, 0, k, _, h, _ => by
    unfold plx
    rw [if_pos (show c = x from h.symm)]
    rfl
  | x :: l, j + 1, k, h, g, q => by
    unfold plx
    rw [if_neg (fun z => q 0 (by omega) z.symm), plx_at l j (k + 1) (Nat.lt_of_succ_lt_succ h) g (fun i hi => q (i + 1) (by omega)), show k + 1 + j = k + (j + 1) by omega]
theorem plx_no {c : Nat} : ∀ (l : List Nat) (k : Nat), (∀ i, i < l.length → l.getD i 0 ≠ c) → plx l c k = -1
  | [], k, _ => rfl
  | x :: l, k, q => by
    unfold plx
    rw [if_neg (fun z => q 0 (Nat.succ_pos _) z.symm)]
    exact plx_no l (k + 1) fun i hi => q (i + 1) (Nat.succ_lt_succ hi)
theorem sc_n {v j : Nat} (h : j < hm_sL.getD v 0) (h2 : j < 2147483648) : hm_sc v (Int32.ofNat j) = some (sC v j) := by
  have e1 := n_cl (n := j) h2
  unfold hm_sc
  rw [e1, if_neg]
  · rfl
  · intro z
    rcases z with z | z
    · exact n_nn h2 z
    · omega
section
variable {μ : hm_M} {T : Nat → Nat} {n : Nat}
theorem st_at (hT : GT μ T n) {s e v j : Nat} (h5 : μ.1 150 5 = Int32.ofNat s) (h6 : μ.1 150 6 = Int32.ofNat e) (he : e ≤ n) (hv : v < 10) (hj : j < sN v) (hl : e = s + wL (sW v j - 1)) : f_X6_standsAt v (Int32.ofNat (sP v j)) μ = some (zb (decide (∀ t, t < wL (sW v j - 1) → T (s + t) = wB (wP (sW v j - 1) + t)))) := by
  have hn := hT.1
  obtain ⟨t1, t2, t3, t4⟩ := s_wrd v hv j hj
  have t5 := (s_tab v hv).2.2.2
  have w3 := (w_tab (sW v j - 1) (by omega)).2.2.1
  unfold f_X6_standsAt
  have hsl : hm_sl v = Int32.ofNat (hm_sL.getD v 0) := rfl
  refine lo2 (L := f_X6_standsAt_L2 v (Int32.ofNat (sP v j)) (fun μz4 => some 1)) (fun k y m => y = Int32.ofNat k ∧ m = μ ∧ ∀ t, t < k → T (s + t) = wB (wP (sW v j - 1) + t)) (fun o => o = some (zb (decide (∀ t, t < wL (sW v j - 1) → T (s + t) = wB (wP (sW v j - 1) + t))))) (wL (sW v j - 1)) (fun k y m hk hI => ?_) (fun y m hI F => ?_) (fu_lt (by omega)) ⟨rfl, rfl, fun t ht => absurd ht (Nat.not_lt_zero t)⟩
  · obtain ⟨rfl, rfl, c⟩ := hI
    obtain ⟨b1, b2⟩ := hT.2.1 (s + k) (by omega)
    have st : ∀ F, f_X6_standsAt_L2 v (Int32.ofNat (sP v j)) (fun μz4 => some 1) (F + 1) (Int32.ofNat k) m = if T (s + k) = wB (wP (sW v j - 1) + k) then f_X6_standsAt_L2 v (Int32.ofNat (sP v j)) (fun μz4 => some 1) F (Int32.ofNat (k + 1)) m else some 0 := by
      intro F
      have wl := w_let (sW v j - 1) (by omega) k hk
      rw [f_X6_standsAt_L2, h5, h6, n_sub (by omega), if_neg (by rw [n_le (by omega) (by omega)]; omega), hsl, n_add, if_neg (by rw [n_le (by omega) (by omega)]; omega), hT.2.2, n_add, if_neg (by rw [n_le (by omega) (by omega)]; omega), ld_n (by omega) (by decide), Option.bind_some, sc_n (by omega) (by omega), Option.bind_some, b2, s_let v hv j hj k hk, show Int32.ofNat k + 1 = Int32.ofNat (k + 1) from n_add k 1]
      by_cases y : T (s + k) = wB (wP (sW v j - 1) + k)
      · rw [if_pos y, if_pos (by rw [y])]
      · rw [if_neg y, if_neg (by rw [n_eq (by omega) (by omega)]; exact y)]
    by_cases y : T (s + k) = wB (wP (sW v j - 1) + k)
    · left
      refine ⟨_, _, ⟨rfl, rfl, fun t ht => ?_⟩, fun F => by rw [st, if_pos y]⟩
      by_cases z : t = k
      · rw [z]; exact y
      · exact c t (by omega)
    · right
      intro F
      rw [st, if_neg y, decide_eq_false fun z => y (z k hk)]
      rfl
  · obtain ⟨rfl, rfl, c⟩ := hI
    rw [f_X6_standsAt_L2, h5, h6, n_sub (by omega), if_pos (by rw [n_le (by omega) (by omega)]; omega), decide_eq_true c]
    rfl
theorem pl_word (hT : GT μ T n) {s e v : Nat} (h4 : μ.1 150 4 = 0) (h5 : μ.1 150 5 = Int32.ofNat s) (h6 : μ.1 150 6 = Int32.ofNat e) (hs : s ≤ e) (he : e ≤ n) (hv : v < 10) : f_X6_placeIn v μ = some (plc v (wdn T s e)) := by
  have hn := hT.1
  obtain ⟨t1, t2, t3, t5⟩ := s_tab v hv
  have hsl : hm_sl v = Int32.ofNat (hm_sL.getD v 0) := rfl
  have mt : ∀ j, j < sN v → (wq T s e (sW v j - 1) ↔ wdn T s e = sW v j) := fun j hj => by
    obtain ⟨u1, -⟩ := s_wrd v hv j hj
    rw [wdn_iff (by omega), show sW v j - 1 + 1 = sW v j by omega]
  unfold f_X6_placeIn
  rw [h4, if_pos rfl]
  refine lo4 (L := f_X6_placeIn_L16 v (fun μz4 => some (-1))) (fun q x y z m => m = μ ∧ z = Int32.ofNat q ∧ ∃ j, x = Int32.ofNat j ∧ y = Int32.ofNat (sP v j) ∧ sP v j ≤ q ∧ ((j < sN v ∧ q < sP v (j + 1)) ∨ (j = sN v ∧ q = hm_sL.getD v 0 + 1)) ∧ ∀ i, i < j → wdn T s e ≠ sW v i) (fun o => o = some (plc v (wdn T s e))) (hm_sL.getD v 0 + 1) (fun q x y z m hq hI => ?_) (fun x y z m hI F => ?_) (fu_lt (by omega)) ⟨rfl, rfl, 0, rfl, by rw [t1]; rfl, by omega, Or.inl ?_, fun i hi => absurd hi (Nat.not_lt_zero i)⟩
  · obtain ⟨rfl, rfl, j, rfl, rfl, g1, g2, g3⟩ := hI
    have hj : j < sN v ∧ q < sP v (j + 1) := g2.resolve_right fun z => by omega
    obtain ⟨u1, u2, u3, u4⟩ := s_wrd v hv j hj.1
    have u5 := s_end v hv j hj.1
    have w3 := (w_tab (sW v j - 1) (by omega)).2.2.1
    by_cases y : q = sP v j + wL (sW v j - 1)
    · -- a word ends
      have st : ∀ F, f_X6_placeIn_L16 v (fun μz4 => some (-1)) (F + 1) (Int32.ofNat j) (Int32.ofNat (sP v j)) (Int32.ofNat q) m = if wdn T s e = sW v j then some (Int32.ofNat j) else f_X6_placeIn_L16 v (fun μz4 => some (-1)) F (Int32.ofNat (j + 1)) (Int32.ofNat (q + 1)) (Int32.ofNat (q + 1)) m := by
        intro F
        have j45 : f_X6_placeIn_J45 v (f_X6_placeIn_L16 v (fun μz4 => some (-1)) F) (fun μz4 => some (-1)) (Int32.ofNat j) (Int32.ofNat (sP v j)) (Int32.ofNat q) m = if wdn T s e = sW v j then some (Int32.ofNat j) else f_X6_placeIn_L16 v (fun μz4 => some (-1)) F (Int32.ofNat (j + 1)) (Int32.ofNat (q + 1)) (Int32.ofNat (q + 1)) m := by
          unfold f_X6_placeIn_J45 f_X6_placeIn_J72 f_X6_placeIn_J80
          rw [h5, h6, n_sub (by omega), n_sub (by omega), show Int32.ofNat j + 1 = Int32.ofNat (j + 1) from n_add j 1, show Int32.ofNat q + 1 = Int32.ofNat (q + 1) from n_add q 1]
          by_cases z : e = s + wL (sW v j - 1)
          · rw [if_pos (by rw [n_eq (by omega) (by omega)]; omega), st_at hT h5 h6 he hv hj.1 z, Option.bind_some]
            by_cases w : ∀ t, t < wL (sW v j - 1) → T (s + t) = wB (wP (sW v j - 1) + t)
            · rw [decide_eq_true w, if_neg (show ¬ zb true = 0 by decide), if_pos ((mt j hj.1).1 ⟨z, w⟩)]
            · rw [decide_eq_false w, if_pos (show zb false = 0 from rfl), if_neg fun k => w ((mt j hj.1).2 k).2]
          · rw [if_neg (by rw [n_eq (by omega) (by omega)]; omega), if_neg fun k => z ((mt j hj.1).2 k).1]
        rw [f_X6_placeIn_L16, hsl, if_neg (by rw [n_lt (by omega) (by omega)]; omega)]
        by_cases z : q = hm_sL.getD v 0
        · rw [if_pos (by rw [z])]
          exact j45
        · rw [if_neg (by rw [n_eq (by omega) (by omega)]; exact z), sc_n (by omega) (by omega), Option.bind_some, y, if_pos (u4 (by
            have : ¬ sP v (j + 1) = hm_sL.getD v 0 + 1 := by omega
            rw [u5] at this
            omega)), ← y]
          exact j45
      by_cases w : wdn T s e = sW v j
      · right
        intro F
        rw [st, if_pos w]
        have := plx_at (c := wdn T s e) (sWs.getD v []) j 0 hj.1 w.symm (fun i hi z => g3 i hi z.symm)
        rw [Nat.zero_add] at this
        exact congrArg some this.symm
      · left
        refine ⟨_, Int32.ofNat (q + 1), _, _, ⟨rfl, rfl, j + 1, rfl, by rw [y, u2], by omega, ?_, fun i hi => ?_⟩, fun F => by rw [st, if_neg w]⟩
        · by_cases z : j + 1 = sN v
          · exact Or.inr ⟨z, by have := u5.2 z; omega⟩
          · obtain ⟨-, x2, -⟩ := s_wrd v hv (j + 1) (by omega)
            exact Or.inl ⟨by omega, by omega⟩
        · by_cases z : i = j
          · rw [z]; exact w
          · exact g3 i (by omega)
    · left
      refine ⟨_, _, _, _, ⟨rfl, rfl, j, rfl, rfl, by omega, Or.inl ⟨hj.1, by omega⟩, g3⟩, fun F => ?_⟩
      have hq2 : q < hm_sL.getD v 0 := by omega
      have nsp : sC v q ≠ 32 := by
        have a1 := s_let v hv j hj.1 (q - sP v j) (by omega)
        have a2 := w_let (sW v j - 1) (by omega) (q - sP v j) (by omega)
        rw [show sP v j + (q - sP v j) = q by omega] at a1
        rw [a1, show (32 : Int32) = Int32.ofNat 32 from rfl]
        intro z
        rw [n_eq (by omega) (by omega)] at z
        omega
      rw [f_X6_placeIn_L16, hsl, if_neg (by rw [n_lt (by omega) (by omega)]; omega), if_neg (by rw [n_eq (by omega) (by omega)]; omega), sc_n (by omega) (by omega), Option.bind_some, if_neg nsp]
      unfold f_X6_placeIn_J80
      rw [show Int32.ofNat q + 1 = Int32.ofNat (q + 1) from n_add q 1]
  · obtain ⟨rfl, rfl, j, rfl, rfl, g1, g2, g3⟩ := hI
    have hj : j = sN v := by
      rcases g2 with ⟨a1, a2⟩ | ⟨a1, -⟩
      · obtain ⟨-, -, u3, -⟩ := s_wrd v hv j a1
        omega
      · exact a1
    rw [f_X6_placeIn_L16, hsl, if_pos (by rw [n_lt (by omega) (by omega)]; omega)]
    exact congrArg some (plx_no _ 0 fun i hi z => g3 i (by rw [hj]; exact hi) z.symm).symm
  · have : 0 < sN v := by
      have k : ∀ v, v < 10 → 0 < sN v := by decide +kernel
      exact k v hv
    obtain ⟨-, u2, -⟩ := s_wrd v hv 0 this
    exact ⟨this, by omega⟩
end
end
