section
variable {T : Nat → Nat} {n : Nat} {ord : Bool}
theorem q6_open {μ : hm_M} {i l d : Nat} {C : pc_C} (h : QA μ T n ord i l d C) (hi : i < tmy T n) (hd : d < 8) : ∃ m, f_X6_open μ = some (1, m) ∧ fw μ m ∧ QA m T n ord (i + 1) l (d + 1) C := by
  have hc0 := h.2.1.2
  obtain ⟨⟨a1, a2, a3, a4, a5⟩, bb, c1, c2, c3⟩ := id h.2.2
  have A9 : AT (hm_wI μ 150 9 (Int32.ofNat (d + 1))) T n i := h.1.keep (fun j hj => wI_ne (by omega)) (fun j => wI_ne (by omega))
  have B9 : QB (hm_wI μ 150 9 (Int32.ofNat (d + 1))) T n ord l (d + 1) C := ⟨⟨by rw [wI_ne (by omega)]; exact a1, by rw [wI_ne (by omega)]; exact a2, wI_at _ _ _ _, a4, by omega⟩, bb, by rw [wI_ne (by omega)]; exact c1, by rw [wI_ne (by omega)]; exact c2, fun k x hk => by rw [wI_ne (by omega), wI_ne (by omega)]; exact c3 k x hk⟩
  obtain ⟨m1, q1, q2, q3⟩ := QA.go A9 hi B9 (by omega)
  refine ⟨m1, ?_, fw_trans (fw_w (a := 150) (j := 9) (by omega) _) (fg_fw q2), q3⟩
  unfold f_X6_open
  rw [a3, if_pos (by rw [show (8 : Int32) = Int32.ofNat 8 from rfl, n_lt (by omega) (by omega)]; exact hd), show Int32.ofNat d + 1 = Int32.ofNat (d + 1) from n_add d 1, pI_some, Option.bind_some, q1, Option.bind_some]
theorem q6_shut {μ : hm_M} {i l d : Nat} {C : pc_C} (h : QA μ T n ord i l d C) (hd : ¬ d < 8) : f_X6_open μ = some (0, μ) := by
  obtain ⟨⟨a1, a2, a3, a4, a5⟩, -⟩ := id h.2.2
  unfold f_X6_open
  rw [a3, if_neg (by rw [show (8 : Int32) = Int32.ofNat 8 from rfl, n_lt (by omega) (by omega)]; exact hd)]
theorem q6_close {μ : hm_M} {j l d c : Nat} {C : pc_C} (h : QA μ T n ord j l (d + 1) C) (hc : c < 256) : (tkc T n j = 100 + c ∧ ∃ m, f_X6_close (Int32.ofNat c) μ = some (1, m) ∧ fw μ m ∧ QA m T n ord (j + 1) l d C) ∨ (¬ tkc T n j = 100 + c ∧ f_X6_close (Int32.ofNat c) μ = some (0, μ)) := by
  have hc0 := h.2.1.2
  obtain ⟨⟨u1, u2, u3, u4, u5⟩, ub, v1, v2, v3⟩ := id h.2.2
  unfold f_X6_close
  rw [h.1.sign hc, Option.bind_some]
  by_cases y : tkc T n j = 100 + c
  · left
    refine ⟨y, ?_⟩
    have A8 : AT (hm_wI μ 150 9 (Int32.ofNat d)) T n j := h.1.keep (fun j hj => wI_ne (by omega)) (fun j => wI_ne (by omega))
    have B8 : QB (hm_wI μ 150 9 (Int32.ofNat d)) T n ord l d C := ⟨⟨by rw [wI_ne (by omega)]; exact u1, by rw [wI_ne (by omega)]; exact u2, wI_at _ _ _ _, u4, by omega⟩, ub, by rw [wI_ne (by omega)]; exact v1, by rw [wI_ne (by omega)]; exact v2, fun k x hk => by rw [wI_ne (by omega), wI_ne (by omega)]; exact v3 k x hk⟩
    obtain ⟨m3, w1, w2, w3⟩ := QA.go A8 (tkc_0 (by omega)) B8 (by omega)
    refine ⟨m3, ?_, fw_trans (fw_w (a := 150) (j := 9) (by omega) _) (fg_fw w2), w3⟩
    rw [decide_eq_true y, if_neg (show ¬ zb true = 0 by decide), u3, show Int32.ofNat (d + 1) - 1 = Int32.ofNat d from n_sub (a := d + 1) (b := 1) (by omega), pI_some, Option.bind_some, w1, Option.bind_some]
  · right
    refine ⟨y, ?_⟩
    rw [decide_eq_false y, if_pos (show zb false = 0 from rfl)]
theorem q6_fin {μ0 m : hm_M} {i0 j l d : Nat} {C0 C1 : pc_C} {s : pc_S} (b : Bool) (k1 k2 k3 : hm_M → Option (Int32 × hm_M)) (h : QA m T n ord j l d C1) (f : fw μ0 m) (hi : i0 < j) (hC : C0.length ≤ i0 ∧ C0.length ≤ C1.length ∧ C1.length + (if b = true then 1 else 0) + i0 ≤ C0.length + j) : QE T n ord d i0 C0 μ0 (pc_fin b j l C1 s) (f_X6_readPlain_J113 k1 k2 k3 (zb b) m) := by
  unfold f_X6_readPlain_J113 pc_fin
  cases b with
  | false =>
    rw [if_neg (by decide)] at hC
    rw [if_pos (show zb false = 0 from rfl), if_neg (by decide)]
    exact ⟨1, m, rfl, f, rfl, hi, by omega, h⟩
  | true =>
    rw [if_pos rfl] at hC
    rw [if_neg (show ¬ zb true = 0 by decide), if_pos rfl]
    obtain ⟨m2, q1, q2, q3⟩ := h.emit (by omega) 10 0 (fun _ => Or.inl (by decide))
    rw [q1, Option.bind_some]
    refine ⟨1, m2, rfl, fw_trans f q2, rfl, hi, ?_, q3⟩
    rw [List.length_append]
    simp only [List.length_cons, List.length_nil]
    omega
theorem AT.cmp {μ : hm_M} {i : Nat} (h : AT μ T n i) : f_X6_comparisonHere μ = some (if pc_cmp (tkc T n i) = 0 then -1 else Int32.ofNat (pc_cmp (tkc T n i))) := by
  unfold f_X6_comparisonHere pc_cmp
  rw [show (60 : Int32) = Int32.ofNat 60 from rfl, show (62 : Int32) = Int32.ofNat 62 from rfl, show (61 : Int32) = Int32.ofNat 61 from rfl, h.sign (by omega), h.sign (by omega), h.sign (by omega), Option.bind_some, Option.bind_some, Option.bind_some]
  by_cases y1 : tkc T n i = 160
  · rw [decide_eq_true (show tkc T n i = 100 + 60 from y1), if_neg (show ¬ zb true = 0 by decide), y1]
    rfl
  · rw [decide_eq_false (show ¬ tkc T n i = 100 + 60 from y1), if_pos (show zb false = 0 from rfl), if_neg y1]
    by_cases y2 : tkc T n i = 162
    · rw [decide_eq_true (show tkc T n i = 100 + 62 from y2), if_neg (show ¬ zb true = 0 by decide), y2]
      rfl
    · rw [decide_eq_false (show ¬ tkc T n i = 100 + 62 from y2), if_pos (show zb false = 0 from rfl), if_neg y2]
      by_cases y3 : tkc T n i = 161
      · rw [decide_eq_true (show tkc T n i = 100 + 61 from y3), if_neg (show ¬ zb true = 0 by decide), y3]
        rfl
      · rw [decide_eq_false (show ¬ tkc T n i = 100 + 61 from y3), if_pos (show zb false = 0 from rfl), if_neg y3]
        rfl
theorem cmp_lt : ∀ c, c < 400 → pc_cmp c < 10 := by decide +kernel
theorem q6_plain {μ : hm_M} {i l d : Nat} {C : pc_C} {kt : Nat → Nat → Nat → pc_C → pc_R pc_S} {k1 k2 k3 : hm_M → Option (Int32 × hm_M)} (h : QA μ T n ord i l d C) (hkt : d < 8 → ∀ m i l C, QA m T n ord i l (d + 1) C → QE T n ord (d + 1) i C m (kt (d + 1) i l C) (k3 m)) : QE T n ord d i C μ (pc_plain ord (tkc T n) (vlc T n) kt d i l C) (f_X6_readPlain k1 k2 k3 μ) := by
  have hn := h.1.1.1
  have hm := (tmy_p T n).2.2
  have hc0 := h.2.1.2
  unfold f_X6_readPlain pc_plain
  obtain ⟨m, r1, r2, r3, r4, r5⟩ := q6_nots (k1 := k1) (k2 := k2) (k3 := k3) (e := fun z4_1 μz4 => f_X6_readPlain_J36 k1 k2 k3 z4_1 μz4) 400 hm_fu 0 μ i l C false (by omega) (fu_lt (by omega)) (by omega) h
  rw [show f_X6_readPlain_L4 k1 k2 k3 (fun z4_1 μz4 => f_X6_readPlain_J36 k1 k2 k3 z4_1 μz4) hm_fu 0 0 μ = _ from r1]
  generalize (pc_nots (tkc T n) 400 i false).2 = b at r4 ⊢
  generalize (pc_nots (tkc T n) 400 i false).1 = i1 at r3 r4 r5 ⊢
  have t4 := tkc_lt (fun k hk => (h.1.1.2.1 k hk).1) i1
  have hb : (if b = true then 1 else 0) + i ≤ i1 := by
    cases b with
    | false => rw [if_neg (by decide)]; omega
    | true =>
      rw [if_pos rfl]
      have : i ≠ i1 := fun z => by cases r4 z
      omega
  have hb1 : (if b = true then 1 else 0) ≤ 1 := by split <;> omega
  generalize hr : pc_pos ord (tkc T n) (vlc T n) kt d i1 l C b = r
  unfold pc_pos at hr
  unfold f_X6_readPlain_J36
  rw [show (40 : Int32) = Int32.ofNat 40 from rfl, r5.1.sign (by omega), Option.bind_some]
  by_cases y1 : tkc T n i1 = 140
  · have hi := tkc_0 (T := T) (n := n) (i := i1) (by omega)
    rw [if_pos y1] at hr
    rw [decide_eq_true (show tkc T n i1 = 100 + 40 from y1), if_neg (show ¬ zb true = 0 by decide)]
    by_cases y2 : d < 8
    · rw [if_pos y2] at hr
      obtain ⟨m1, q1, q2, q3⟩ := q6_open r5 hi y2
      rw [q1, b2_some, if_neg (by decide)]
      obtain ⟨x, m2, s1, s2, s3⟩ := hkt y2 m1 (i1 + 1) l C q3
      have f2 := fw_trans r2 (fw_trans q2 s2)
      rw [s1, b2_some]
      generalize kt (d + 1) (i1 + 1) l C = rr at s3 hr
      match rr, s3 with
      | .error e, s3 =>
        rw [s3.1, if_pos rfl, ← hr]
        exact QE_err s3.2.2 s3.2.1 f2
      | .ok (j, l1, C1, s), s3 =>
        obtain ⟨e1, e2, e3, e4⟩ := s3
        have hr' : (if tkc T n j = 141 then pc_fin b (j + 1) l1 C1 s else .error j) = r := hr
        rw [e1, if_neg (by decide), show (41 : Int32) = Int32.ofNat 41 from rfl]
        rcases q6_close (c := 41) e4 (by omega) with ⟨w1, m3, w2, w3, w4⟩ | ⟨w1, w2⟩
        · rw [if_pos w1] at hr'
          rw [w2, b2_some, if_neg (by decide), ← hr']
          exact q6_fin b k1 k2 k3 w4 (fw_trans f2 w3) (by omega) ⟨hc0, by omega, by omega⟩
        · rw [if_neg w1] at hr'
          rw [w2, b2_some, if_pos rfl, ← hr']
          exact QE_err e4.1 e4.2.1.1 f2
    · rw [if_neg y2] at hr
      rw [q6_shut r5 y2, b2_some, if_pos rfl, ← hr]
      exact QE_err r5.1 r5.2.1.1 r2
  · rw [if_neg y1] at hr
    rw [decide_eq_false (show ¬ tkc T n i1 = 100 + 40 from y1), if_pos (show zb false = 0 from rfl)]
    obtain ⟨x, m2, s1, s2, s3⟩ := q6_Sum r5
    have f2 := fw_trans r2 s2
    rw [s1, b2_some]
    generalize pc_sum ord (tkc T n) (vlc T n) 10 d i1 l C = rr at s3 hr
    match rr, s3 with
    | .error e, s3 =>
      rw [s3.1, if_pos rfl, ← hr]
      exact QE_err s3.2.2 s3.2.1 f2
    | .ok (j, l1, C1, s), s3 =>
      obtain ⟨e1, e2, e3, e4⟩ := s3
      have t5 := tkc_lt (fun k hk => (h.1.1.2.1 k hk).1) j
      have cl := cmp_lt _ t5
      have hr' : (if pc_cmp (tkc T n j) = 0 then .error j else pc_b (pc_sum ord (tkc T n) (vlc T n) 10 d (j + 1) l1 C1) fun j2 l2 C2 t => pc_fin b j2 l2 (C2 ++ [(Int32.ofNat (pc_cmp (tkc T n j)), 0)]) (pc_s2 (Int32.ofNat (pc_cmp (tkc T n j))) s t)) = r := hr
      rw [e1, if_neg (by decide), e4.1.cmp, Option.bind_some]
      by_cases y3 : pc_cmp (tkc T n j) = 0
      · rw [if_pos y3] at hr'
        rw [if_pos y3, if_pos rfl, ← hr']
        exact QE_err e4.1 e4.2.1.1 f2
      · have nm : ∀ k : Nat, k < 10 → ¬ Int32.ofNat k = -1 := by decide +kernel
        have hj : j < tmy T n := tkc_0 fun z => y3 (by rw [z]; rfl)
        have e5 := e4.2.1.2
        rw [if_neg y3] at hr'
        rw [if_neg y3, if_neg (nm _ cl)]
        obtain ⟨m3, q1, q2, q3⟩ := QA.go e4.1 hj e4.2.2 (by omega)
        obtain ⟨x2, m4, u1, u2, u3⟩ := q6_Sum q3
        have f4 := fw_trans f2 (fw_trans (fg_fw q2) u2)
        rw [q1, Option.bind_some, u1, b2_some]
        generalize pc_sum ord (tkc T n) (vlc T n) 10 d (j + 1) l1 C1 = r3v at u3 hr'
        match r3v, u3 with
        | .error e, u3 =>
          rw [u3.1, if_pos rfl, ← hr']
          exact QE_err u3.2.2 u3.2.1 f4
        | .ok (j2, l2, C2, t), u3 =>
          obtain ⟨v1, v2, v3, v4⟩ := u3
          obtain ⟨m5, p1, p2, p3⟩ := v4.emit (by omega) (Int32.ofNat (pc_cmp (tkc T n j))) 0 (fun _ => Or.inl (by decide))
          rw [v1, if_neg (by decide), p1, Option.bind_some, ← hr']
          refine q6_fin b k1 k2 k3 p3 (fw_trans f4 p2) (by omega) ⟨hc0, ?_, ?_⟩ <;> rw [List.length_append] <;> simp only [List.length_cons, List.length_nil] <;> omega
end
