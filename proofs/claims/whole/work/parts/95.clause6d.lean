section
variable {T : Nat → Nat} {n : Nat}
theorem c6_times {m μ0 : hm_M} {k i0 j l h a e1 : Nat} {C0 C : pc_C} {s1 s2 : pc_S} (hk : k < 12) (hQ : QA m T n true j l 0 C) (f : fc k μ0 m) (h4 : m.1 151 4 = Int32.ofNat k) (hr : row4 m k h a e1 1) (hi : i0 < j) (hC : C0.length ≤ C.length ∧ C.length + i0 ≤ C0.length + j) : CE T n true k i0 C0 μ0 (pc_tail (tkc T n) (vlc T n) h a e1 s1 s2 j l C) (f_X6_readClause_J147 m) := by
  have hc0 := hQ.2.1.2
  unfold f_X6_readClause_J147 f_X6_readTimes f_X6_readClause_J158 f_X6_readClause_J159 pc_tail pc_times
  rcases q6_pass (v := 6) hQ (by omega) (by omega) (by decide) with ⟨w1, m2, w2, w3, w4⟩ | ⟨w1, w2⟩
  · have w1' : tkc T n j = 29 := w1
    have f2 := fc_trans f (fw_fc k (fg_fw w3))
    have k2 := k4_fw (fg_fw w3) h4
    have r2 := hr.fw (fg_fw w3)
    rw [if_pos w1', w2, b2_some, if_neg (show ¬ (1 : Int32) = 0 by decide), show (1 : Int32) = Int32.ofNat 1 from rfl, show (20 : Int32) = Int32.ofNat 20 from rfl, w4.1.num (by omega) (by omega), Option.bind_some]
    by_cases y : tkc T n (j + 1) = 50 ∧ 1 ≤ vlc T n (j + 1) ∧ vlc T n (j + 1) ≤ 20
    · rw [if_pos y, decide_eq_true y, if_neg (show ¬ zb true = 0 by decide), w4.1.val y.1 (by omega)]
      obtain ⟨a1, a2, a3⟩ := w4.part hk (show 5 < 6 by omega) (Int32.ofNat (vlc T n (j + 1))) k2
      obtain ⟨m3, q1, q2, q3⟩ := QA.go a2.1 (tkc_0 (by omega)) a2.2.2 (by omega)
      rw [show f_X5_setPart 151 5 (Int32.ofNat (vlc T n (j + 1))) m2 = _ from a1, Option.bind_some, q1, Option.bind_some, b2_some, if_neg (show ¬ Int32.ofNat 1 = 0 by decide)]
      have r3 : row4 (hm_wI m2 154 (6 * k + 5) (Int32.ofNat (vlc T n (j + 1)))) k h a e1 (vlc T n (j + 1)) := by
        unfold row4
        rw [wI_ne (by omega), wI_ne (by omega), wI_ne (by omega), wI_at]
        exact ⟨r2.1, r2.2.1, r2.2.2.1, rfl⟩
      exact c6_if hk q3 (fc_trans f2 (fc_trans (fc_w (p := 5) (by omega) _) (fw_fc k (fg_fw q2)))) (k4_fw (fg_fw q2) a3) (r3.fw (fg_fw q2)) (by omega) (by omega)
    · rw [if_neg y, decide_eq_false y, if_pos (show zb false = 0 from rfl), b2_some, if_pos rfl]
      exact BD.end hk ⟨w4.1, w4.2.1.1, f2, k2, w4.ln⟩
  · have w1' : ¬ tkc T n j = 29 := w1
    rw [if_neg w1', w2, b2_some, if_pos rfl, b2_some, if_neg (by decide)]
    exact c6_if hk hQ f h4 hr hi hC
theorem c6_join {m : hm_M} {j l h : Nat} {C : pc_C} (hQ : QA m T n true j l 0 C) (hh : h < 3) : (tkc T n j = 23 + 2 * h ∧ ∃ m2, f_X6_passJoin (Int32.ofNat h) m = some (1, m2) ∧ fg m m2 ∧ QA m2 T n true (j + 1) l 0 C) ∨ (¬ tkc T n j = 23 + 2 * h ∧ f_X6_passJoin (Int32.ofNat h) m = some (0, m)) := by
  have t4 := tkc_lt (fun k hk => (hQ.1.1.2.1 k hk).1) j
  have hp := plc_2 h hh _ t4
  have hc := hQ.2.1.2
  unfold f_X6_passJoin f_X6_passJoin_J15
  rw [hQ.1.place (by omega), Option.bind_some]
  by_cases y : tkc T n j = 23 + 2 * h
  · left
    refine ⟨y, ?_⟩
    obtain ⟨m2, q1, q2, q3⟩ := QA.go hQ.1 (tkc_0 (by omega)) hQ.2.2 (by omega)
    refine ⟨m2, ?_, q2, q3⟩
    rw [if_pos (hp.2 y), if_neg (by decide), q1, Option.bind_some]
    rfl
  · right
    refine ⟨y, ?_⟩
    rw [if_neg fun z => y (hp.1 z), if_pos rfl]
    rfl
theorem c6_ord {μ : hm_M} {k i l : Nat} {C : pc_C} (hk : k < 12) (h : QA μ T n true i l 0 C) (h4 : μ.1 151 4 = Int32.ofNat k) : CE T n true k i C μ (pc_ord1 (tkc T n) (vlc T n) i l C) (f_X6_readClause μ) := by
  have hc0 := h.2.1.2
  have t4 := tkc_lt (fun k hk => (h.1.1.2.1 k hk).1) i
  have rf : fc k μ μ := ⟨rfl, fun _ _ _ _ _ _ _ => rfl⟩
  generalize hr : pc_ord1 (tkc T n) (vlc T n) i l C = r
  unfold pc_ord1 at hr
  unfold f_X6_readClause f_X6_readClause_J15 f_X6_readClause_J43
  rw [h.2.2.1.1, if_pos (show zb (!true) = 0 from rfl), h.1.place (by omega), plc_1o _ t4, Option.bind_some]
  by_cases y1 : pc_headO (tkc T n i) = 9
  · rw [if_pos y1] at hr ⊢
    rw [if_pos rfl, ← hr]
    exact ⟨0, μ, rfl, rf, rfl, h.2.1.1, h.1⟩
  · rw [if_neg y1] at hr ⊢
    have h3 := (hdO _ t4).resolve_left y1
    have nm : ∀ k : Nat, k < 8 → ¬ Int32.ofNat k = -1 := by decide +kernel
    have hi : i < tmy T n := tkc_0 fun z => y1 (by rw [z]; rfl)
    obtain ⟨m1, q1, q2, q3⟩ := QA.go h.1 hi h.2.2 (by omega)
    have f1 : fc k μ m1 := fw_fc k (fg_fw q2)
    rw [if_neg (nm _ (by omega)), q1, Option.bind_some, q3.2.2.1.1, if_pos (show zb (!true) = 0 from rfl)]
    have k1 := k4_fw (fg_fw q2) h4
    by_cases y2 : pc_headO (tkc T n i) = 3
    · rw [if_pos y2] at hr
      rw [y2, if_pos (show Int32.ofNat 3 = 3 from rfl)]
      obtain ⟨m3, g1, g2, g3, g4, g5⟩ := c6_row (h := 3) hk q3 f1 k1 1
      obtain ⟨m4, p1, p2, p3, p4, p5⟩ := c6_two hk g1 g2 g3 g4
      rw [g5, if_neg (by decide)]
      unfold f_X6_readClause_J96 f_X6_readClause_J101
      rw [p1, Option.bind_some, p2.2.2.1.1, if_pos (show zb (!true) = 0 from rfl), if_neg (by decide), if_neg (by decide), ← hr]
      exact c6_times hk p2 p3 p4 p5 (by omega) ⟨Nat.le_refl _, by omega⟩
    · rw [if_neg y2] at hr
      rw [if_neg (by rw [show (3 : Int32) = Int32.ofNat 3 from rfl, n_eq (by omega) (by omega)]; exact y2)]
      obtain ⟨m3, g1, g2, g3, g4, g5⟩ := c6_row (h := pc_headO (tkc T n i)) hk q3 f1 k1 0
      rw [g5, if_pos rfl]
      obtain ⟨x, m4, s1, s2, s3⟩ := q6_Sum g1
      have f4 := fc_trans g2 (fw_fc k s2)
      have k4 := k4_fw s2 g3
      rw [s1, b2_some]
      generalize pc_sum true (tkc T n) (vlc T n) 10 0 (i + 1) l C = rr at s3 hr
      match rr, s3 with
      | .error e, s3 =>
        rw [s3.1, if_pos rfl, ← hr]
        exact BD.end2 hk ⟨s3.2.2, s3.2.1, f4, k4, ln_fw s2 g1.ln⟩
      | .ok (j, l1, C1, s), s3 =>
        obtain ⟨e1, e2, e3, e4⟩ := s3
        have hr' : (if tkc T n j = 23 + 2 * pc_headO (tkc T n i) then pc_b (pc_sum true (tkc T n) (vlc T n) 10 0 (j + 1) l1 C1) fun j2 l2 C2 s2 => pc_tail (tkc T n) (vlc T n) (pc_headO (tkc T n i)) C.length C1.length s s2 j2 l2 C2 else .error j) = r := hr
        obtain ⟨m5, p1, p2, p3, p4, p5⟩ := c6_two hk e4 f4 k4 (r3_fw s2 g4)
        rw [e1, if_neg (by decide)]
        unfold f_X6_readClause_J96 f_X6_readClause_J101 f_X6_readClause_J158 f_X6_readClause_J159
        rw [p1, Option.bind_some, p2.2.2.1.1, if_pos (show zb (!true) = 0 from rfl), if_neg (show ¬ (1 : Int32) = 0 by decide), if_pos (show (0 : Int32) = 0 from rfl)]
        rcases c6_join p2 (show pc_headO (tkc T n i) < 3 by omega) with ⟨w1, m6, w2, w3, w4⟩ | ⟨w1, w2⟩
        · rw [if_pos w1] at hr'
          rw [w2, b2_some, if_neg (show ¬ (1 : Int32) = 0 by decide)]
          obtain ⟨x2, m7, u1, u2, u3⟩ := q6_Sum w4
          have g7 := fw_trans (fg_fw w3) u2
          have f7 := fc_trans p3 (fw_fc k g7)
          have k7 := k4_fw g7 p4
          rw [u1, b2_some]
          generalize pc_sum true (tkc T n) (vlc T n) 10 0 (j + 1) l1 C1 = r3v at u3 hr'
          match r3v, u3 with
          | .error e, u3 =>
            rw [u3.1, if_pos rfl, ← hr']
            exact BD.end hk ⟨u3.2.2, u3.2.1, f7, k7, ln_fw g7 p2.ln⟩
          | .ok (j2, l2, C2, s2), u3 =>
            obtain ⟨v1, v2, v3, v4⟩ := u3
            rw [v1, if_neg (show ¬ (1 : Int32) = 0 by decide), ← hr']
            exact c6_times hk v4 f7 k7 (p5.fw g7) (by omega) (by omega)
        · rw [if_neg w1] at hr'
          rw [w2, b2_some, if_pos rfl, ← hr']
          exact BD.end hk ⟨p2.1, p2.2.1.1, p3, p4, p2.ln⟩
theorem c6_one {ord : Bool} {μ : hm_M} {k i l : Nat} {C : pc_C} (hk : k < 12) (h : QA μ T n ord i l 0 C) (h4 : μ.1 151 4 = Int32.ofNat k) : CE T n ord k i C μ (pc_one ord (tkc T n) (vlc T n) i l C) (f_X6_readClause μ) := by
  unfold pc_one
  cases ord with
  | false => exact c6_law hk h h4
  | true => exact c6_ord hk h h4
end
