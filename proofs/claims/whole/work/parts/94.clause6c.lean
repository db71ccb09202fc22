section
variable {T : Nat → Nat} {n : Nat} {ord : Bool}
theorem sp6 {m : hm_M} {k p : Nat} (hk : k < 12) (hp : p < 6) (x : Int32) (h4 : m.1 151 4 = Int32.ofNat k) (hl : hm_ln m 154 = 72) : f_X5_setPart 151 (Int32.ofNat p) x m = some (hm_wI m 154 (6 * k + p) x) := by
  unfold f_X5_setPart
  rw [h4, show (6 : Int32) = Int32.ofNat 6 from rfl, n_mul, n_add, Option.bind_some, if_neg (n_nn (by omega)), hl, if_neg (by rw [n_le (by omega) (by omega)]; omega), sd_n (by omega) (by decide), Option.bind_some, show k * 6 + p = 6 * k + p by omega]
/-- a clause that has failed -/
def BD (T : Nat → Nat) (n k e : Nat) (μ0 m : hm_M) : Prop := AT m T n e ∧ e ≤ tmy T n ∧ fc k μ0 m ∧ m.1 151 4 = Int32.ofNat k ∧ hm_ln m 154 = 72
theorem BD.w {k e p : Nat} {μ0 m : hm_M} (h : BD T n k e μ0 m) (hp : p < 6) (x : Int32) : BD T n k e μ0 (hm_wI m 154 (6 * k + p) x) := ⟨h.1.keep (fun j _ => wI_ne (by omega)) (fun j => wI_ne (by omega)), h.2.1, fc_trans h.2.2.1 (fc_w hp x), by rw [wI_ne (by omega)]; exact h.2.2.2.1, h.2.2.2.2⟩
theorem BD.end {k e i0 : Nat} {C0 : pc_C} {μ0 m : hm_M} (hk : k < 12) (h : BD T n k e μ0 m) : CE T n ord k i0 C0 μ0 (.error e) (f_X6_readClause_J160 0 m) := by
  unfold f_X6_readClause_J160
  rw [show (3 : Int32) = Int32.ofNat 3 from rfl, sp6 hk (by omega) _ h.2.2.2.1 h.2.2.2.2, Option.bind_some, if_pos rfl]
  obtain ⟨b1, b2, b3, b4, b5⟩ := h.w (p := 3) (by omega) (m.1 151 3)
  exact c6_bad hk b1 b2 b3 b4 b5
theorem BD.end2 {k e i0 : Nat} {C0 : pc_C} {μ0 m : hm_M} {y1 y2 : Int32} (hk : k < 12) (h : BD T n k e μ0 m) : CE T n ord k i0 C0 μ0 (.error e) (f_X6_readClause_J101 0 y1 y2 m) := by
  unfold f_X6_readClause_J101 f_X6_readClause_J158 f_X6_readClause_J159
  rw [show (2 : Int32) = Int32.ofNat 2 from rfl, sp6 hk (by omega) _ h.2.2.2.1 h.2.2.2.2, Option.bind_some]
  have hb := h.w (p := 2) (by omega) (m.1 151 3)
  split
  · rw [if_pos rfl]
    exact hb.end hk
  · exact hb.end hk
theorem QA.ln {m : hm_M} {i l d : Nat} {C : pc_C} (h : QA m T n ord i l d C) : hm_ln m 154 = 72 := h.2.2.2.1.2.2
theorem ln_fw {μ m : hm_M} (f : fw μ m) (h : hm_ln μ 154 = 72) : hm_ln m 154 = 72 := by
  have : hm_ln m = hm_ln μ := by unfold hm_ln; rw [f.1]
  rw [this]; exact h
theorem k4_fw {μ m : hm_M} {k : Nat} (f : fw μ m) (h : μ.1 151 4 = Int32.ofNat k) : m.1 151 4 = Int32.ofNat k := by
  rw [f.2 _ _ (by omega) (by omega) (by omega) (by omega)]; exact h
theorem plc_0 : ∀ c, c < 400 → plc 0 c = if pc_headL c = 9 then -1 else Int32.ofNat (pc_headL c) := by decide +kernel
theorem plc_1o : ∀ c, c < 400 → plc 1 c = if pc_headO c = 9 then -1 else Int32.ofNat (pc_headO c) := by decide +kernel
theorem plc_2 : ∀ h, h < 3 → ∀ c, c < 400 → (plc 2 c = Int32.ofNat h ↔ c = 23 + 2 * h) := by decide +kernel
theorem hdL : ∀ c, c < 400 → pc_headL c = 9 ∨ pc_headL c < 3 := by decide +kernel
theorem hdO : ∀ c, c < 400 → pc_headO c = 9 ∨ pc_headO c < 4 := by decide +kernel
/-- the row begun -/
theorem c6_row {m μ0 : hm_M} {k i l h : Nat} {C : pc_C} (hk : k < 12) (hQ : QA m T n ord i l 0 C) (f : fc k μ0 m) (h4 : m.1 151 4 = Int32.ofNat k) (s0 : Int32) : ∃ m3, QA m3 T n ord i l 0 C ∧ fc k μ0 m3 ∧ m3.1 151 4 = Int32.ofNat k ∧ (m3.1 154 (6 * k) = Int32.ofNat h ∧ m3.1 154 (6 * k + 1) = Int32.ofNat C.length ∧ m3.1 154 (6 * k + 5) = Int32.ofNat 1) ∧ f_X6_readClause_J51 s0 (Int32.ofNat h) m = (if s0 = 0 then hm_b2 (F_X6_readSum m3) fun x29 μ30 => (if x29 = 0 then f_X6_readClause_J101 0 (Int32.ofNat h) s0 μ30 else f_X6_readClause_J96 (Int32.ofNat h) s0 μ30) else f_X6_readClause_J96 (Int32.ofNat h) s0 m3) := by
  have c1 : m.1 151 3 = Int32.ofNat C.length := hQ.2.2.2.2.1
  obtain ⟨a1, a2, a3⟩ := hQ.part hk (show 0 < 6 by omega) (Int32.ofNat h) h4
  have d1 : (hm_wI m 154 (6 * k + 0) (Int32.ofNat h)).1 151 3 = Int32.ofNat C.length := a2.2.2.2.2.1
  obtain ⟨b1, b2, b3⟩ := a2.part hk (show 1 < 6 by omega) (Int32.ofNat C.length) a3
  obtain ⟨e1, e2, e3⟩ := b2.part hk (show 5 < 6 by omega) 1 b3
  refine ⟨hm_wI (hm_wI (hm_wI m 154 (6 * k + 0) (Int32.ofNat h)) 154 (6 * k + 1) (Int32.ofNat C.length)) 154 (6 * k + 5) 1, e2, fc_trans f (fc_trans (fc_w (p := 0) (by omega) _) (fc_trans (fc_w (p := 1) (by omega) _) (fc_w (p := 5) (by omega) _))), e3, ⟨by rw [wI_ne (by omega), wI_ne (by omega)]; exact wI_at _ _ _ _, by rw [wI_ne (by omega), wI_at], by rw [wI_at]; rfl⟩, ?_⟩
  unfold f_X6_readClause_J51
  rw [show f_X5_setPart 151 0 (Int32.ofNat h) m = _ from a1, Option.bind_some, d1, show f_X5_setPart 151 1 (Int32.ofNat C.length) _ = _ from b1, Option.bind_some, show f_X5_setPart 151 5 1 _ = _ from e1, Option.bind_some]
/-- its second part -/
theorem c6_two {m μ0 : hm_M} {k i l h a : Nat} {C : pc_C} (hk : k < 12) (hQ : QA m T n ord i l 0 C) (f : fc k μ0 m) (h4 : m.1 151 4 = Int32.ofNat k) (hr : m.1 154 (6 * k) = Int32.ofNat h ∧ m.1 154 (6 * k + 1) = Int32.ofNat a ∧ m.1 154 (6 * k + 5) = Int32.ofNat 1) : ∃ m2, f_X5_setPart 151 2 (m.1 151 3) m = some m2 ∧ QA m2 T n ord i l 0 C ∧ fc k μ0 m2 ∧ m2.1 151 4 = Int32.ofNat k ∧ row4 m2 k h a C.length 1 := by
  have c1 : m.1 151 3 = Int32.ofNat C.length := hQ.2.2.2.2.1
  obtain ⟨a1, a2, a3⟩ := hQ.part hk (show 2 < 6 by omega) (m.1 151 3) h4
  refine ⟨_, a1, a2, fc_trans f (fc_w (p := 2) (by omega) _), a3, ?_⟩
  unfold row4
  rw [wI_ne (by omega), wI_ne (by omega), wI_at, wI_ne (by omega), c1]
  exact ⟨hr.1, hr.2.1, rfl, hr.2.2⟩
theorem r3_fw {μ m : hm_M} {k h a : Nat} (f : fw μ m) (hr : μ.1 154 (6 * k) = Int32.ofNat h ∧ μ.1 154 (6 * k + 1) = Int32.ofNat a ∧ μ.1 154 (6 * k + 5) = Int32.ofNat 1) : m.1 154 (6 * k) = Int32.ofNat h ∧ m.1 154 (6 * k + 1) = Int32.ofNat a ∧ m.1 154 (6 * k + 5) = Int32.ofNat 1 := by
  rw [f.2 _ _ (by omega) (by omega) (by omega) (by omega), f.2 _ _ (by omega) (by omega) (by omega) (by omega), f.2 _ _ (by omega) (by omega) (by omega) (by omega)]
  exact hr
theorem c6_law {μ : hm_M} {k i l : Nat} {C : pc_C} (hk : k < 12) (h : QA μ T n false i l 0 C) (h4 : μ.1 151 4 = Int32.ofNat k) : CE T n false k i C μ (pc_law1 (tkc T n) (vlc T n) i l C) (f_X6_readClause μ) := by
  have hc0 := h.2.1.2
  have t4 := tkc_lt (fun k hk => (h.1.1.2.1 k hk).1) i
  have rf : fc k μ μ := ⟨rfl, fun _ _ _ _ _ _ _ => rfl⟩
  generalize hr : pc_law1 (tkc T n) (vlc T n) i l C = r
  unfold pc_law1 at hr
  unfold f_X6_readClause f_X6_readClause_J15 f_X6_readClause_J43
  rw [h.2.2.1.1, if_neg (show ¬ zb (!false) = 0 by decide), h.1.place (by omega), plc_0 _ t4, Option.bind_some]
  by_cases y1 : pc_headL (tkc T n i) = 9
  · rw [if_pos y1] at hr ⊢
    rw [if_pos rfl, ← hr]
    exact ⟨0, μ, rfl, rf, rfl, h.2.1.1, h.1⟩
  · rw [if_neg y1] at hr ⊢
    have h3 := (hdL _ t4).resolve_left y1
    have nm : ∀ k : Nat, k < 8 → ¬ Int32.ofNat k = -1 := by decide +kernel
    have hi : i < tmy T n := tkc_0 fun z => y1 (by rw [z]; rfl)
    obtain ⟨m1, q1, q2, q3⟩ := QA.go h.1 hi h.2.2 (by omega)
    have f1 : fc k μ m1 := fw_fc k (fg_fw q2)
    rw [if_neg (nm _ (by omega)), q1, Option.bind_some, q3.2.2.1.1, if_neg (show ¬ zb (!false) = 0 by decide)]
    have k1 := k4_fw (fg_fw q2) h4
    by_cases y2 : pc_headL (tkc T n i) = 2
    · rw [if_pos y2] at hr
      rw [y2, if_pos (show Int32.ofNat 2 = 2 from rfl)]
      obtain ⟨m3, g1, g2, g3, g4, g5⟩ := c6_row (h := 2) hk q3 f1 k1 1
      obtain ⟨m4, p1, p2, p3, p4, p5⟩ := c6_two hk g1 g2 g3 g4
      rw [g5, if_neg (by decide)]
      unfold f_X6_readClause_J96 f_X6_readClause_J101
      rw [p1, Option.bind_some, p2.2.2.1.1, if_neg (show ¬ zb (!false) = 0 by decide), ← hr]
      exact c6_if hk p2 p3 p4 p5 (by omega) ⟨Nat.le_refl _, by omega⟩
    · rw [if_neg y2] at hr
      rw [if_neg (by rw [show (2 : Int32) = Int32.ofNat 2 from rfl, n_eq (by omega) (by omega)]; exact y2)]
      obtain ⟨m3, g1, g2, g3, g4, g5⟩ := c6_row (h := pc_headL (tkc T n i)) hk q3 f1 k1 0
      rw [g5, if_pos rfl]
      obtain ⟨x, m4, s1, s2, s3⟩ := q6_Sum g1
      have f4 := fc_trans g2 (fw_fc k s2)
      have k4 := k4_fw s2 g3
      rw [s1, b2_some]
      generalize pc_sum false (tkc T n) (vlc T n) 10 0 (i + 1) l C = rr at s3 hr
      match rr, s3 with
      | .error e, s3 =>
        rw [s3.1, if_pos rfl, ← hr]
        exact BD.end2 hk ⟨s3.2.2, s3.2.1, f4, k4, ln_fw s2 g1.ln⟩
      | .ok (j, l1, C1, s), s3 =>
        obtain ⟨e1, e2, e3, e4⟩ := s3
        obtain ⟨m5, p1, p2, p3, p4, p5⟩ := c6_two hk e4 f4 k4 (r3_fw s2 g4)
        rw [e1, if_neg (by decide)]
        unfold f_X6_readClause_J96 f_X6_readClause_J101
        rw [p1, Option.bind_some, p2.2.2.1.1, if_neg (show ¬ zb (!false) = 0 by decide), ← hr]
        exact c6_if hk p2 p3 p4 p5 (by omega) (by omega)
end
