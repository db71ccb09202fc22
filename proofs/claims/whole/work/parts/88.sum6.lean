section
variable {T : Nat → Nat} {n : Nat} {ord : Bool}
theorem q6_loop {g : Nat → Nat} {kp : Nat → Nat → pc_C → pc_R pc_S} {k : hm_M → Option (Int32 × hm_M)} {L : Nat → Int32 → hm_M → Option (Int32 × hm_M)} {d : Nat} (g0 : g 0 = 0) (hst : ∀ F c μ i l C, QA μ T n ord i l d C → c < 400 → L (F + 1) (Int32.ofNat c) μ = if g (tkc T n i) = 0 then some (1, μ) else Option.bind (f_X6_goOn μ) fun μ8 => hm_b2 (k μ8) fun x9 μ10 => (if x9 = 0 then some (0, μ10) else Option.bind (f_X5_emit 151 (Int32.ofNat (g (tkc T n i))) 0 μ10) fun μ12 => L F (Int32.ofNat (c + 1)) μ12)) (hp : ∀ m i l C, QA m T n ord i l d C → QE T n ord d i C m (kp i l C) (k m)) : ∀ q F c μ i l C s i0 C0 μ0, tmy T n - i ≤ q → tmy T n - i < F → c < i → i0 < i → (C0.length ≤ C.length ∧ C.length + i0 ≤ C0.length + i) → fw μ0 μ → QA μ T n ord i l d C → QE T n ord d i0 C0 μ0 (pc_loop (tkc T n) g kp q i l C s) (L F (Int32.ofNat c) μ)
  | q, 0, c, μ, i, l, C, s, i0, C0, μ0, _, h, _, _, _, _, _ => absurd h (Nat.not_lt_zero _)
  | 0, F + 1, c, μ, i, l, C, s, i0, C0, μ0, hq, hF, hci, hi0, hC, hf, hR => by
    have hn := hR.1.1.1
    have hm := (tmy_p T n).2.2
    have := hR.2.1.1
    rw [hst F c μ i l C hR (by omega), tkc_end (show tmy T n ≤ i by omega), if_pos g0]
    exact ⟨1, μ, rfl, hf, rfl, hi0, hC, hR⟩
  | q + 1, F + 1, c, μ, i, l, C, s, i0, C0, μ0, hq, hF, hci, hi0, hC, hf, hR => by
    have hn := hR.1.1.1
    have hm := (tmy_p T n).2.2
    have hi1 := hR.2.1.1
    have hc1 := hR.2.1.2
    rw [hst F c μ i l C hR (by omega)]
    unfold pc_loop
    by_cases y : g (tkc T n i) = 0
    · rw [if_pos y, if_pos y]
      exact ⟨1, μ, rfl, hf, rfl, hi0, hC, hR⟩
    · rw [if_neg y, if_neg y]
      have hi := tkc_0 (T := T) (n := n) (i := i) (fun z => y (by rw [z]; exact g0))
      obtain ⟨m1, q1, q2, q3⟩ := QA.go hR.1 hi hR.2.2 (by omega)
      obtain ⟨x, m2, s1, s2, s3⟩ := hp m1 (i + 1) l C q3
      have f2 := fw_trans hf (fw_trans (fg_fw q2) s2)
      rw [q1, Option.bind_some, s1, b2_some]
      generalize kp (i + 1) l C = r at s3
      match r, s3 with
      | .error e, s3 =>
        rw [s3.1, if_pos rfl]
        exact QE_err s3.2.2 s3.2.1 f2
      | .ok (j, l1, C1, t), s3 =>
        obtain ⟨e1, e2, e3, e4⟩ := s3
        obtain ⟨m3, p1, p2, p3⟩ := e4.emit (by omega) (Int32.ofNat (g (tkc T n i))) 0 (fun _ => Or.inl (by decide))
        rw [e1, if_neg (by decide), p1, Option.bind_some]
        exact q6_loop g0 hst hp q F (c + 1) m3 j l1 _ _ i0 C0 μ0 (by omega) (by omega) (by omega) (by omega) (by rw [List.length_append]; simp only [List.length_cons, List.length_nil]; omega) (fw_trans f2 p2) p3
theorem t6_step {k1 k2 k3 : hm_M → Option (Int32 × hm_M)} (F c : Nat) (μ : hm_M) (i l : Nat) {d : Nat} (C : pc_C) (h : QA μ T n ord i l d C) (hc : c < 400) : f_X6_readTerm_L11 k1 k2 k3 (fun μz15 => some (1, μz15)) (F + 1) (Int32.ofNat c) μ = if pc_mul (tkc T n i) = 0 then some (1, μ) else Option.bind (f_X6_goOn μ) fun μ8 => hm_b2 (k1 μ8) fun x9 μ10 => (if x9 = 0 then some (0, μ10) else Option.bind (f_X5_emit 151 (Int32.ofNat (pc_mul (tkc T n i))) 0 μ10) fun μ12 => f_X6_readTerm_L11 k1 k2 k3 (fun μz15 => some (1, μz15)) F (Int32.ofNat (c + 1)) μ12) := by
  rw [f_X6_readTerm_L11, if_neg (by rw [show (400 : Int32) = Int32.ofNat 400 from rfl, n_le (by omega) (by omega)]; omega)]
  unfold f_X6_readTerm_J45 f_X6_readTerm_J73 pc_mul
  rw [show (42 : Int32) = Int32.ofNat 42 from rfl, show (47 : Int32) = Int32.ofNat 47 from rfl, show (37 : Int32) = Int32.ofNat 37 from rfl, h.1.sign (by omega), h.1.sign (by omega), h.1.sign (by omega), Option.bind_some, Option.bind_some, Option.bind_some, show Int32.ofNat c + 1 = Int32.ofNat (c + 1) from n_add c 1]
  by_cases y1 : tkc T n i = 142
  · rw [decide_eq_true (show tkc T n i = 100 + 42 from y1)]
    simp only [if_neg (show ¬ zb true = 0 by decide), if_pos y1]
    rfl
  · rw [decide_eq_false (show ¬ tkc T n i = 100 + 42 from y1)]
    simp only [if_pos (show zb false = 0 from rfl), if_neg y1]
    by_cases y2 : tkc T n i = 147
    · rw [decide_eq_true (show tkc T n i = 100 + 47 from y2)]
      simp only [if_neg (show ¬ zb true = 0 by decide), if_pos y2]
      rfl
    · rw [decide_eq_false (show ¬ tkc T n i = 100 + 47 from y2)]
      simp only [if_pos (show zb false = 0 from rfl), if_neg y2]
      by_cases y3 : tkc T n i = 137
      · rw [decide_eq_true (show tkc T n i = 100 + 37 from y3)]
        simp only [if_neg (show ¬ zb true = 0 by decide), if_pos y3]
        rfl
      · rw [decide_eq_false (show ¬ tkc T n i = 100 + 37 from y3)]
        simp only [if_pos (show zb false = 0 from rfl), if_neg y3]
        rfl
theorem s6_step {k1 k2 k3 : hm_M → Option (Int32 × hm_M)} (F c : Nat) (μ : hm_M) (i l : Nat) {d : Nat} (C : pc_C) (h : QA μ T n ord i l d C) (hc : c < 400) : f_X6_readSum_L11 k1 k2 k3 (fun μz13 => some (1, μz13)) (F + 1) (Int32.ofNat c) μ = if pc_add (tkc T n i) = 0 then some (1, μ) else Option.bind (f_X6_goOn μ) fun μ8 => hm_b2 (k3 μ8) fun x9 μ10 => (if x9 = 0 then some (0, μ10) else Option.bind (f_X5_emit 151 (Int32.ofNat (pc_add (tkc T n i))) 0 μ10) fun μ12 => f_X6_readSum_L11 k1 k2 k3 (fun μz13 => some (1, μz13)) F (Int32.ofNat (c + 1)) μ12) := by
  rw [f_X6_readSum_L11, if_neg (by rw [show (400 : Int32) = Int32.ofNat 400 from rfl, n_le (by omega) (by omega)]; omega)]
  unfold f_X6_readSum_J36 f_X6_readSum_J50 pc_add
  rw [show (43 : Int32) = Int32.ofNat 43 from rfl, show (45 : Int32) = Int32.ofNat 45 from rfl, h.1.sign (by omega), h.1.sign (by omega), Option.bind_some, Option.bind_some, show Int32.ofNat c + 1 = Int32.ofNat (c + 1) from n_add c 1]
  by_cases y1 : tkc T n i = 143
  · rw [decide_eq_true (show tkc T n i = 100 + 43 from y1)]
    simp only [if_neg (show ¬ zb true = 0 by decide), if_pos y1]
    rfl
  · rw [decide_eq_false (show ¬ tkc T n i = 100 + 43 from y1)]
    simp only [if_pos (show zb false = 0 from rfl), if_neg y1]
    by_cases y2 : tkc T n i = 145
    · rw [decide_eq_true (show tkc T n i = 100 + 45 from y2)]
      simp only [if_neg (show ¬ zb true = 0 by decide), if_pos y2]
      rfl
    · rw [decide_eq_false (show ¬ tkc T n i = 100 + 45 from y2)]
      simp only [if_pos (show zb false = 0 from rfl), if_neg y2]
      rfl
/-- first one, then the loop -/
theorem q6_first {g : Nat → Nat} {kp : Nat → Nat → pc_C → pc_R pc_S} {k : hm_M → Option (Int32 × hm_M)} {L : Nat → Int32 → hm_M → Option (Int32 × hm_M)} {d : Nat} (g0 : g 0 = 0) (hst : ∀ F c μ i l C, QA μ T n ord i l d C → c < 400 → L (F + 1) (Int32.ofNat c) μ = if g (tkc T n i) = 0 then some (1, μ) else Option.bind (f_X6_goOn μ) fun μ8 => hm_b2 (k μ8) fun x9 μ10 => (if x9 = 0 then some (0, μ10) else Option.bind (f_X5_emit 151 (Int32.ofNat (g (tkc T n i))) 0 μ10) fun μ12 => L F (Int32.ofNat (c + 1)) μ12)) (hp : ∀ m i l C, QA m T n ord i l d C → QE T n ord d i C m (kp i l C) (k m)) {μ : hm_M} {i l : Nat} {C : pc_C} (h : QA μ T n ord i l d C) : QE T n ord d i C μ (pc_b (kp i l C) fun j l1 C1 s => pc_loop (tkc T n) g kp 400 j l1 C1 s) (hm_b2 (k μ) fun x2 μ3 => (if x2 = 0 then some (0, μ3) else L hm_fu 0 μ3)) := by
  have hn := h.1.1.1
  have hm := (tmy_p T n).2.2
  obtain ⟨x, m2, s1, s2, s3⟩ := hp μ i l C h
  rw [s1, b2_some]
  generalize kp i l C = r at s3
  match r, s3 with
  | .error e, s3 =>
    rw [s3.1, if_pos rfl]
    exact QE_err s3.2.2 s3.2.1 s2
  | .ok (j, l1, C1, t), s3 =>
    obtain ⟨e1, e2, e3, e4⟩ := s3
    rw [e1, if_neg (by decide)]
    exact q6_loop g0 hst hp 400 hm_fu 0 m2 j l1 C1 t i C μ (by omega) (fu_lt (by omega)) (by omega) (by omega) e3 s2 e4
theorem q6_sum : ∀ (N d M : Nat), 9 ≤ N + d → d ≤ 8 → 3 * N ≤ M → ∀ (μ : hm_M) (i l : Nat) (C : pc_C), QA μ T n ord i l d C → QE T n ord d i C μ (pc_sum ord (tkc T n) (vlc T n) N d i l C) ((K_X6_readPart M).2.1 μ)
  | 0, d, M, h1, h2, _, μ, i, l, C, h => by omega
  | N + 1, d, M, h1, h2, h3, μ, i, l, C, h => by
    match M, h3 with
    | 0, h3 => omega
    | 1, h3 => omega
    | 2, h3 => omega
    | M + 3, h3 =>
      have hpart : ∀ m i l C, QA m T n ord i l d C → QE T n ord d i C m (pc_part ord (tkc T n) (vlc T n) (pc_sum ord (tkc T n) (vlc T n) N) d i l C) ((K_X6_readPart (M + 1)).1 m) := fun m i l C hR => q6_part hR fun hd m i l C hR => q6_sum N (d + 1) M (by omega) (by omega) (by omega) m i l C hR
      have hterm : ∀ m i l C, QA m T n ord i l d C → QE T n ord d i C m (pc_term ord (tkc T n) (vlc T n) (pc_sum ord (tkc T n) (vlc T n) N) d i l C) ((K_X6_readPart (M + 2)).2.2 m) := fun m i l C hR => q6_first (g := pc_mul) (k := (K_X6_readPart (M + 1)).1) (L := f_X6_readTerm_L11 (K_X6_readPart (M + 1)).1 (K_X6_readPart (M + 1)).2.1 (K_X6_readPart (M + 1)).2.2 (fun μz15 => some (1, μz15))) rfl (fun F c μ i l C h hc => t6_step F c μ i l C h hc) hpart hR
      exact q6_first (g := pc_add) (k := (K_X6_readPart (M + 2)).2.2) (L := f_X6_readSum_L11 (K_X6_readPart (M + 2)).1 (K_X6_readPart (M + 2)).2.1 (K_X6_readPart (M + 2)).2.2 (fun μz13 => some (1, μz13))) rfl (fun F c μ i l C h hc => s6_step F c μ i l C h hc) hterm h
theorem q6_Sum {μ : hm_M} {i l d : Nat} {C : pc_C} (h : QA μ T n ord i l d C) : QE T n ord d i C μ (pc_sum ord (tkc T n) (vlc T n) 10 d i l C) (F_X6_readSum μ) := q6_sum 10 d 40 (by omega) h.2.2.1.2.2.2.2 (by omega) μ i l C h
end
