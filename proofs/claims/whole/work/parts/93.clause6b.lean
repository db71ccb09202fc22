section
variable {T : Nat → Nat} {n : Nat} {ord : Bool}
def row4 (m : hm_M) (k h a e1 nn : Nat) : Prop := m.1 154 (6 * k) = Int32.ofNat h ∧ m.1 154 (6 * k + 1) = Int32.ofNat a ∧ m.1 154 (6 * k + 2) = Int32.ofNat e1 ∧ m.1 154 (6 * k + 5) = Int32.ofNat nn
theorem row4.fw {μ m : hm_M} {k h a e1 nn : Nat} (r : row4 μ k h a e1 nn) (f : fw μ m) : row4 m k h a e1 nn := by
  unfold row4
  rw [f.2 _ _ (by omega) (by omega) (by omega) (by omega), f.2 _ _ (by omega) (by omega) (by omega) (by omega), f.2 _ _ (by omega) (by omega) (by omega) (by omega), f.2 _ _ (by omega) (by omega) (by omega) (by omega)]
  exact r
theorem c6_fin {m μ0 : hm_M} {k i0 j l h a e1 e3 nn : Nat} {C0 C2 : pc_C} {s1 s2 : pc_S} {t : Option pc_S} (hk : k < 12) (hQ : QA m T n ord j l 0 C2) (f : fc k μ0 m) (h4 : m.1 151 4 = Int32.ofNat k) (hr : row4 m k h a e1 nn) (h3 : m.1 154 (6 * k + 3) = Int32.ofNat e3) (hi : i0 < j) (hC : C0.length ≤ C2.length ∧ C2.length + i0 ≤ C0.length + j) : CE T n ord k i0 C0 μ0 (.ok (j, l, C2, ((h, a, e1, e3, C2.length, nn), s1, s2, t))) (f_X6_readClause_J195 m) := by
  obtain ⟨r0, r1, r2, r5⟩ := hr
  unfold f_X6_readClause_J195 f_X6_readClause_J200
  obtain ⟨p1, p2, p3⟩ := hQ.part hk (show 4 < 6 by omega) (m.1 151 3) h4
  rw [show (4 : Int32) = Int32.ofNat 4 from rfl, p1, Option.bind_some, p3, show Int32.ofNat k + 1 = Int32.ofNat (k + 1) from n_add k 1, pI_some, Option.bind_some]
  have c1 : m.1 151 3 = Int32.ofNat C2.length := hQ.2.2.2.2.1
  refine ⟨1, _, rfl, fc_trans f (fc_trans (fc_w (p := 4) (by omega) (m.1 151 3)) ⟨rfl, fun a j z z1 z2 z3 z4 => wI_ne (by omega)⟩), rfl, hi, hC, ?_, wI_at _ _ _ _, ?_⟩
  · obtain ⟨h1, h2, ⟨a1, a2, a3, a4, a5⟩, b, c1, c2, c3⟩ := p2
    exact ⟨h1.keep (fun j _ => wI_ne (by omega)) (fun j => wI_ne (by omega)), h2, ⟨by rw [wI_ne (by omega)]; exact a1, by rw [wI_ne (by omega)]; exact a2, by rw [wI_ne (by omega)]; exact a3, a4, a5⟩, b, by rw [wI_ne (by omega)]; exact c1, by rw [wI_ne (by omega)]; exact c2, fun k x hk => by rw [wI_ne (by omega), wI_ne (by omega)]; exact c3 k x hk⟩
  · unfold row6
    rw [wI_ne (by omega), wI_ne (by omega), r0, wI_ne (by omega), wI_ne (by omega), r1, wI_ne (by omega), wI_ne (by omega), r2, wI_ne (by omega), wI_ne (by omega), h3, wI_ne (by omega), wI_at, c1, wI_ne (by omega), wI_ne (by omega), r5]
    exact ⟨rfl, rfl, rfl, rfl, rfl, rfl⟩
theorem c6_if {m μ0 : hm_M} {k i0 j l h a e1 nn : Nat} {C0 C : pc_C} {s1 s2 : pc_S} (hk : k < 12) (hQ : QA m T n ord j l 0 C) (f : fc k μ0 m) (h4 : m.1 151 4 = Int32.ofNat k) (hr : row4 m k h a e1 nn) (hi : i0 < j) (hC : C0.length ≤ C.length ∧ C.length + i0 ≤ C0.length + j) : CE T n ord k i0 C0 μ0 (pc_b (pc_if ord (tkc T n) (vlc T n) j l C) fun j2 l2 C2 t => .ok (j2, l2, C2, ((h, a, e1, C.length, C2.length, nn), s1, s2, t))) (f_X6_readClause_J160 1 m) := by
  unfold f_X6_readClause_J160
  obtain ⟨p1, p2, p3⟩ := hQ.part hk (show 3 < 6 by omega) (m.1 151 3) h4
  have c1 : m.1 151 3 = Int32.ofNat C.length := hQ.2.2.2.2.1
  have f1 : fc k μ0 (hm_wI m 154 (6 * k + 3) (m.1 151 3)) := fc_trans f (fc_w (by omega) _)
  have r1 : row4 (hm_wI m 154 (6 * k + 3) (m.1 151 3)) k h a e1 nn := by
    unfold row4
    rw [wI_ne (by omega), wI_ne (by omega), wI_ne (by omega), wI_ne (by omega)]
    exact hr
  have h3 : (hm_wI m 154 (6 * k + 3) (m.1 151 3)).1 154 (6 * k + 3) = Int32.ofNat C.length := by rw [wI_at]; exact c1
  rw [show (3 : Int32) = Int32.ofNat 3 from rfl, p1, Option.bind_some, if_neg (by decide)]
  generalize hm_wI m 154 (6 * k + 3) (m.1 151 3) = m1 at p2 p3 f1 r1 h3 ⊢
  unfold pc_if
  rcases q6_pass (v := 5) p2 (by omega) (by omega) (by decide) with ⟨w1, m2, w2, w3, w4⟩ | ⟨w1, w2⟩
  · have w1' : tkc T n j = 4 := w1
    rw [if_pos w1', w2, b2_some, if_neg (by decide)]
    obtain ⟨x, m3, s1', s2', s3'⟩ := q6_Test w4
    have g3 := fw_trans (fg_fw w3) s2'
    have f3 := fc_trans f1 (fw_fc k g3)
    have k4 : m3.1 151 4 = Int32.ofNat k := by rw [g3.2 _ _ (by omega) (by omega) (by omega) (by omega)]; exact p3
    rw [s1', b2_some]
    generalize pc_test ord (tkc T n) (vlc T n) 10 0 (j + 1) l C = r at s3'
    match r, s3' with
    | .error e, s3 =>
      rw [s3.1, if_pos rfl]
      have hl : hm_ln m3 154 = 72 := by
        have : hm_ln m3 = hm_ln m1 := by unfold hm_ln; rw [g3.1]
        rw [this]
        exact p2.2.2.2.1.2.2
      exact c6_bad hk s3.2.2 s3.2.1 f3 k4 hl
    | .ok (j2, l2, C2, t), s3 =>
      obtain ⟨e1', e2, e3, e4⟩ := s3
      rw [e1', if_neg (by decide)]
      exact c6_fin (t := some t) hk e4 f3 k4 (r1.fw g3) (by rw [g3.2 _ _ (by omega) (by omega) (by omega) (by omega)]; exact h3) (by omega) (by omega)
  · have w1' : ¬ tkc T n j = 4 := w1
    rw [if_neg w1', w2, b2_some, if_pos rfl]
    exact c6_fin (t := none) hk p2 f1 p3 r1 h3 hi hC
end
