section
/-! The component reads a text. -/
variable {T : Nat → Nat} {n : Nat} {ord : Bool}
def fa (μ m : hm_M) : Prop := m.2 = μ.2 ∧ ∀ a j, ¬ (a = 150 ∧ 4 ≤ j ∧ j ≤ 9) → ¬ (a = 151 ∧ (3 ≤ j ∧ j ≤ 5)) → a ≠ 152 → a ≠ 153 → a ≠ 154 → m.1 a j = μ.1 a j
theorem fa_trans {μ m m1 : hm_M} (h : fa μ m) (g : fa m m1) : fa μ m1 := ⟨g.1.trans h.1, fun a j z z1 z2 z3 z4 => (g.2 a j z z1 z2 z3 z4).trans (h.2 a j z z1 z2 z3 z4)⟩
theorem fc_fa {k : Nat} {μ m : hm_M} (f : fc k μ m) : fa μ m := ⟨f.1, fun a j z z1 z2 z3 z4 => f.2 a j z z1 z2 z3 (by omega)⟩
theorem fg_fa {μ m : hm_M} (f : fg μ m) : fa μ m := ⟨f.1, fun a j z z1 z2 z3 z4 => f.2 a j (by omega)⟩
def T6 (T : Nat → Nat) (n : Nat) (ord : Bool) (μ : hm_M) (r : Except Nat (pc_C × List pc_K)) (o : Option (Int32 × hm_M)) : Prop := ∃ x m, o = some (x, m) ∧ fa μ m ∧ match r with
  | .error e => x = Int32.ofNat (tst T n e) ∧ e ≤ tmy T n
  | .ok (C, L) => x = -1 ∧ (C.length ≤ 400 ∧ L.length ≤ 12) ∧ (m.1 151 3 = Int32.ofNat C.length ∧ m.1 151 4 = Int32.ofNat L.length ∧ fl5 (m.1 151 5) ord C) ∧ lawc C L (m.1 152) (m.1 153) (m.1 154)
theorem t6_more {v2 v3 : Int32} : ∀ (q F : Nat) (μ μ0 : hm_M) (i l k : Nat) (C : pc_C) (A : List pc_K), q + k = 12 → q < F → A.length = k → fa μ0 μ → QA μ T n ord i l 0 C → μ.1 151 4 = Int32.ofNat k → (∀ p x, A[p]? = some x → row6 μ p x.1) → T6 T n ord μ0 (pc_text ord (tkc T n) (vlc T n) (tmy T n) q i l C A) (f_X6_readText_L49 v2 v3 (fun μz17 => some (μz17.1 150 5, μz17)) F (Int32.ofNat k) μ)
  | q, 0, μ, μ0, i, l, k, C, A, _, h, _, _, _, _, _ => absurd h (Nat.not_lt_zero _)
  | 0, F + 1, μ, μ0, i, l, k, C, A, hq, hF, hA, hf, hR, h4, hrow => by
    rw [f_X6_readText_L49, if_pos (by rw [show (12 : Int32) = Int32.ofNat 12 from rfl, n_le (by omega) (by omega)]; omega)]
    exact ⟨_, μ, rfl, hf, hR.1.2.1, hR.2.1.1⟩
  | q + 1, F + 1, μ, μ0, i, l, k, C, A, hq, hF, hA, hf, hR, h4, hrow => by
    have hn := hR.1.1.1
    have hm := (tmy_p T n).2.2
    rw [f_X6_readText_L49, if_neg (by rw [show (12 : Int32) = Int32.ofNat 12 from rfl, n_le (by omega) (by omega)]; omega)]
    obtain ⟨x, m, s1, s2, s3⟩ := c6_one (show k < 12 by omega) hR h4
    have f2 := fa_trans hf (fc_fa s2)
    rw [s1, b2_some]
    unfold pc_text
    generalize pc_one ord (tkc T n) (vlc T n) i l C = r at s3
    match r, s3 with
    | .error e, s3 =>
      rw [s3.1, if_pos rfl]
      exact ⟨_, m, rfl, f2, s3.2.2.2.1, s3.2.1⟩
    | .ok (j, l1, C1, K), s3 =>
      obtain ⟨e1, e2, e3, e4, e5, e6⟩ := s3
      have hj := e4.2.1.1
      have hc1 := e4.2.1.2
      have rows : ∀ p x, (A ++ [K])[p]? = some x → row6 m p x.1 := by
        intro p x hp
        by_cases y : p < A.length
        · rw [List.getElem?_append_left y] at hp
          have := hrow p x hp
          unfold row6 at this ⊢
          rw [s2.2 _ _ (by omega) (by omega) (by omega) (by omega) (by omega), s2.2 _ _ (by omega) (by omega) (by omega) (by omega) (by omega), s2.2 _ _ (by omega) (by omega) (by omega) (by omega) (by omega), s2.2 _ _ (by omega) (by omega) (by omega) (by omega) (by omega), s2.2 _ _ (by omega) (by omega) (by omega) (by omega) (by omega), s2.2 _ _ (by omega) (by omega) (by omega) (by omega) (by omega)]
          exact this
        · have hk2 : p = A.length := by
            have := (List.getElem?_eq_some_iff.mp hp).1
            rw [List.length_append] at this
            simp only [List.length_cons, List.length_nil] at this
            omega
          subst hk2
          rw [List.getElem?_append_right (Nat.le_refl _), Nat.sub_self] at hp
          cases hp
          rw [hA]
          exact e6
      rw [e1, if_neg (by decide)]
      show T6 T n ord μ0 (if tkc T n j = 159 then pc_text ord (tkc T n) (vlc T n) (tmy T n) q (j + 1) l1 C1 (A ++ [K]) else if j < tmy T n then .error j else .ok (C1, A ++ [K])) _
      by_cases y1 : tmy T n ≤ j
      · rw [if_neg (show ¬ tkc T n j = 159 by rw [tkc_end y1]; decide), if_neg (by omega), if_pos (e4.1.fin.2 y1)]
        refine ⟨_, m, rfl, f2, rfl, ⟨by omega, by rw [List.length_append]; simp only [List.length_cons, List.length_nil]; omega⟩, ⟨e4.2.2.2.2.1, by rw [e5, List.length_append, hA]; rfl, e4.2.2.2.2.2.1⟩, e4.2.2.2.2.2.2, rows⟩
      · rw [if_neg (fun z => y1 (e4.1.fin.1 z)), show (59 : Int32) = Int32.ofNat 59 from rfl, e4.1.sign (by omega), Option.bind_some]
        by_cases y2 : tkc T n j = 159
        · rw [if_pos y2, decide_eq_true (show tkc T n j = 100 + 59 from y2), if_neg (show ¬ zb true = 0 by decide)]
          obtain ⟨m2, q1, q2, q3⟩ := QA.go e4.1 (by omega) e4.2.2 (by omega)
          rw [q1, Option.bind_some, show Int32.ofNat k + 1 = Int32.ofNat (k + 1) from n_add k 1]
          refine t6_more q F m2 μ0 (j + 1) l1 (k + 1) C1 (A ++ [K]) (by omega) (by omega) (by rw [List.length_append, hA]; rfl) (fa_trans f2 (fg_fa q2)) q3 (k4_fw (fg_fw q2) e5) (fun p x hp => ?_)
          have := rows p x hp
          unfold row6 at this ⊢
          rw [q2.2 _ _ (by omega), q2.2 _ _ (by omega), q2.2 _ _ (by omega), q2.2 _ _ (by omega), q2.2 _ _ (by omega), q2.2 _ _ (by omega)]
          exact this
        · rw [if_neg y2, if_pos (by omega), decide_eq_false (show ¬ tkc T n j = 100 + 59 from y2), if_pos (show zb false = 0 from rfl)]
          exact ⟨_, m, rfl, f2, e4.1.2.1, hj⟩
end
