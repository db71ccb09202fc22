section
variable {T : Nat → Nat} {n : Nat} {ord : Bool}
theorem AT.keep {μ m : hm_M} {i : Nat} (h : AT μ T n i) (h1 : ∀ j, (j = 2 ∨ (4 ≤ j ∧ j ≤ 7)) → m.1 150 j = μ.1 150 j) (h2 : ∀ j, m.1 156 j = μ.1 156 j) : AT m T n i := by
  obtain ⟨⟨a1, a2, a3⟩, b, c⟩ := h
  refine ⟨⟨a1, fun k hk => ⟨(a2 k hk).1, by rw [h2]; exact (a2 k hk).2⟩, by rw [h1 2 (by omega)]; exact a3⟩, by rw [h1 5 (by omega)]; exact b, ?_⟩
  unfold kv at c ⊢
  rw [h1 4 (by omega), h1 6 (by omega), h1 7 (by omega)]
  exact c
theorem QB.emit {μ : hm_M} {l d : Nat} {C : pc_C} (h : QB μ T n ord l d C) (hc : C.length < 400) (x y : Int32) (hx : x = 1 → y ≠ 4 ∨ μ.1 151 5 = 1 ∨ ord = false) : ∃ m, f_X5_emit 151 x y μ = some m ∧ (m.2 = μ.2 ∧ ∀ a j, ¬ (a = 151 ∧ j = 3) → a ≠ 152 → a ≠ 153 → m.1 a j = μ.1 a j) ∧ QB m T n ord l d (C ++ [(x, y)]) := by
  obtain ⟨⟨a1, a2, a3, a4, a5⟩, ⟨b1, b2, b3⟩, c1, c2, c3⟩ := h
  refine ⟨hm_wI (hm_wI (hm_wI μ 152 C.length x) 153 C.length y) 151 3 (Int32.ofNat (C.length + 1)), ?_, ⟨rfl, fun a j z z1 z2 => by rw [wI_ne (by omega), wI_ne (by omega), wI_ne (by omega)]⟩, ⟨⟨?_, ?_, ?_, a4, a5⟩, ⟨b1, b2, b3⟩, ?_, ?_, fun k q hk => ?_⟩⟩
  · unfold f_X5_emit
    rw [b1, c1, if_neg (by rw [n_le (by omega) (by omega)]; omega), sd_n (by omega) (by decide), Option.bind_some, show hm_ln (hm_wI μ 152 C.length x) (151 + 2) = 400 from b2, wI_ne (by omega), c1, sd_n (by omega) (by decide), Option.bind_some, wI_ne (by omega), wI_ne (by omega), c1, show Int32.ofNat C.length + 1 = Int32.ofNat (C.length + 1) from n_add C.length 1, pI_some]
    rfl
  · rw [wI_ne (by omega), wI_ne (by omega), wI_ne (by omega)]; exact a1
  · rw [wI_ne (by omega), wI_ne (by omega), wI_ne (by omega)]; exact a2
  · rw [wI_ne (by omega), wI_ne (by omega), wI_ne (by omega)]; exact a3
  · rw [wI_at, List.length_append]; rfl
  · rw [wI_ne (by omega), wI_ne (by omega), wI_ne (by omega)]; exact fl5_app c2 hx
  · by_cases z : k < C.length
    · rw [List.getElem?_append_left z] at hk
      rw [wI_ne (by omega), wI_ne (by omega), wI_ne (by omega), wI_ne (by omega), wI_ne (by omega), wI_ne (by omega)]
      exact c3 k q hk
    · have hk2 : k = C.length := by
        have := (List.getElem?_eq_some_iff.mp hk).1
        rw [List.length_append] at this
        simp only [List.length_cons, List.length_nil] at this
        omega
      subst hk2
      rw [List.getElem?_append_right (Nat.le_refl _), Nat.sub_self] at hk
      cases hk
      rw [wI_ne (by omega), wI_ne (by omega), wI_at, wI_ne (by omega), wI_at]
      exact ⟨rfl, rfl⟩
theorem fw_w {μ : hm_M} {a j : Nat} (h : (a = 150 ∧ 4 ≤ j ∧ j ≤ 9) ∨ (a = 151 ∧ (j = 3 ∨ j = 5)) ∨ a = 152 ∨ a = 153) (x : Int32) : fw μ (hm_wI μ a j x) := ⟨rfl, fun b k z z1 z2 z3 => wI_ne (by omega)⟩
/-- going on -/
theorem QA.go {μ : hm_M} {i l d : Nat} {C : pc_C} (h : AT μ T n i) (hi : i < tmy T n) (hb : QB μ T n ord l d C) (hc : C.length ≤ i + 1) : ∃ m, f_X6_goOn μ = some m ∧ fg μ m ∧ QA m T n ord (i + 1) l d C := by
  obtain ⟨m, q1, q2, q3⟩ := h.go
  exact ⟨m, q1, q2, q3, ⟨by omega, hc⟩, hb.fg q2⟩
theorem QA.emit {μ : hm_M} {i l d : Nat} {C : pc_C} (h : QA μ T n ord i l d C) (hc : C.length < i) (x y : Int32) (hx : x = 1 → y ≠ 4 ∨ μ.1 151 5 = 1 ∨ ord = false) : ∃ m, f_X5_emit 151 x y μ = some m ∧ fw μ m ∧ QA m T n ord i l d (C ++ [(x, y)]) := by
  have hn := h.1.1.1
  have hm := (tmy_p T n).2.2
  have hi := h.2.1.1
  obtain ⟨m, q1, q2, q3⟩ := h.2.2.emit (by omega) x y hx
  refine ⟨m, q1, ⟨q2.1, fun a j z z1 z2 z3 => q2.2 a j (by omega) z2 z3⟩, h.1.keep (fun j _ => q2.2 _ _ (by omega) (by omega) (by omega)) (fun j => q2.2 _ _ (by omega) (by omega) (by omega)), ⟨hi, ?_⟩, q3⟩
  rw [List.length_append]
  exact hc
/-- what reading comes to -/
def QE {α : Type} (T : Nat → Nat) (n : Nat) (ord : Bool) (d i0 : Nat) (C0 : pc_C) (μ : hm_M) (r : pc_R α) (o : Option (Int32 × hm_M)) : Prop := ∃ x m, o = some (x, m) ∧ fw μ m ∧ match r with
  | .error e => x = 0 ∧ e ≤ tmy T n ∧ AT m T n e
  | .ok (j, l1, C1, _) => x = 1 ∧ i0 < j ∧ (C0.length ≤ C1.length ∧ C1.length + i0 ≤ C0.length + j) ∧ QA m T n ord j l1 d C1
theorem QE_err {α : Type} {d i0 i : Nat} {C0 : pc_C} {μ m : hm_M} (h : AT m T n i) (hi : i ≤ tmy T n) (f : fw μ m) : QE (α := α) T n ord d i0 C0 μ (.error i) (some (0, m)) := ⟨0, m, rfl, f, rfl, hi, h⟩
theorem plc_3 : ∀ c, c < 400 → plc 3 c = if pc_word false c = 99 then -1 else Int32.ofNat (pc_word false c) := by decide +kernel
theorem plc_4 : ∀ c, c < 400 → plc 4 c = if pc_word true c = 99 then -1 else Int32.ofNat (pc_word true c) := by decide +kernel
theorem wd_lt : ∀ b : Bool, ∀ c, c < 400 → pc_word b c = 99 ∨ pc_word b c < 8 := by decide +kernel
theorem q6_flag {μ : hm_M} {i l d : Nat} {C : pc_C} (h : QA μ T n ord i l d C) (hc : C.length < i) (a y : Int32) (ha : a = 0 ∨ a = 1) (hy : y = 4 → a = 1 ∨ ord = false) (k1 k2 k3 : hm_M → Option (Int32 × hm_M)) : ∃ m, f_X6_readPart_J161 k1 k2 k3 a (μ.1 151 5) y μ = some (1, m) ∧ fw μ m ∧ QA m T n ord i l d (C ++ [(1, y)]) := by
  have hz : (μ.1 151 5 ||| a) = 0 ∨ (μ.1 151 5 ||| a) = 1 := by
    rcases fl5_01 h.2.2.2.2.2.1 with e | e <;> rcases ha with rfl | rfl <;> rw [e] <;> decide
  unfold f_X6_readPart_J161 hm_pZ
  rw [if_pos hz, Option.bind_some]
  have hQ : QA (hm_wI μ 151 5 (μ.1 151 5 ||| a)) T n ord i l d C := by
    obtain ⟨h1, h2, ⟨a1, a2, a3, a4, a5⟩, b, c1, c2, c3⟩ := h
    have hfl : fl5 (μ.1 151 5 ||| a) ord C := by
      rcases c2 with e | ⟨e, g⟩
      · rw [e]
        rcases ha with rfl | rfl <;> exact Or.inl (by decide)
      · rcases ha with rfl | rfl
        · rw [e]
          exact Or.inr ⟨by decide, g⟩
        · rw [e]
          exact Or.inl (by decide)
    refine ⟨h1.keep (fun j _ => wI_ne (by omega)) (fun j => wI_ne (by omega)), h2, ⟨?_, ?_, ?_, a4, a5⟩, b, ?_, by rw [wI_at]; exact hfl, fun k x hk => ?_⟩
    · rw [wI_ne (by omega)]; exact a1
    · rw [wI_ne (by omega)]; exact a2
    · rw [wI_ne (by omega)]; exact a3
    · rw [wI_ne (by omega)]; exact c1
    · rw [wI_ne (by omega), wI_ne (by omega)]; exact c3 k x hk
  have hem : (1 : Int32) = 1 → y ≠ 4 ∨ (hm_wI μ 151 5 (μ.1 151 5 ||| a)).1 151 5 = 1 ∨ ord = false := fun _ => by
    by_cases y4 : y = 4
    · rcases hy y4 with e | e
      · refine Or.inr (Or.inl ?_)
        rw [wI_at, e]
        rcases fl5_01 h.2.2.2.2.2.1 with z | z <;> rw [z] <;> decide
      · exact Or.inr (Or.inr e)
    · exact Or.inl y4
  obtain ⟨m, q1, q2, q3⟩ := hQ.emit hc 1 y hem
  exact ⟨m, by rw [q1, Option.bind_some], fw_trans (fw_w (a := 151) (j := 5) (by omega) _) q2, q3⟩
theorem q6_part {μ : hm_M} {i l d : Nat} {C : pc_C} {ks : Nat → Nat → Nat → pc_C → pc_R pc_S} {k1 k2 k3 : hm_M → Option (Int32 × hm_M)} (h : QA μ T n ord i l d C) (hks : d < 8 → ∀ m i l C, QA m T n ord i l (d + 1) C → QE T n ord (d + 1) i C m (ks (d + 1) i l C) (k2 m)) : QE T n ord d i C μ (pc_part ord (tkc T n) (vlc T n) ks d i l C) (f_X6_readPart k1 k2 k3 μ) := by
  have hn := h.1.1.1
  have hm := (tmy_p T n).2.2
  have hi0 := h.2.1.1
  have hc0 := h.2.1.2
  have t4 := tkc_lt (fun k hk => (h.1.1.2.1 k hk).1) i
  obtain ⟨⟨a1, a2, a3, a4, a5⟩, bb, c1, c2, c3⟩ := id h.2.2
  generalize hr : pc_part ord (tkc T n) (vlc T n) ks d i l C = r
  unfold pc_part at hr
  unfold f_X6_readPart
  rw [show (91 : Int32) = Int32.ofNat 91 from rfl, h.1.sign (by omega), Option.bind_some]
  by_cases y1 : tkc T n i = 191
  · have hi := tkc_0 (T := T) (n := n) (i := i) (by omega)
    rw [if_pos y1] at hr
    rw [decide_eq_true (show tkc T n i = 100 + 91 from y1), if_neg (show ¬ zb true = 0 by decide)]
    unfold f_X6_open
    rw [a3]
    by_cases y2 : d < 8
    · rw [if_pos y2] at hr
      rw [if_pos (by rw [show (8 : Int32) = Int32.ofNat 8 from rfl, n_lt (by omega) (by omega)]; exact y2), show Int32.ofNat d + 1 = Int32.ofNat (d + 1) from n_add d 1, pI_some, Option.bind_some]
      have A9 : AT (hm_wI μ 150 9 (Int32.ofNat (d + 1))) T n i := h.1.keep (fun j hj => wI_ne (by omega)) (fun j => wI_ne (by omega))
      have B9 : QB (hm_wI μ 150 9 (Int32.ofNat (d + 1))) T n ord l (d + 1) C := ⟨⟨by rw [wI_ne (by omega)]; exact a1, by rw [wI_ne (by omega)]; exact a2, wI_at _ _ _ _, a4, by omega⟩, bb, by rw [wI_ne (by omega)]; exact c1, by rw [wI_ne (by omega)]; exact c2, fun k x hk => by rw [wI_ne (by omega), wI_ne (by omega)]; exact c3 k x hk⟩
      obtain ⟨m1, q1, q2, q3⟩ := QA.go A9 hi B9 (by omega)
      have f1 : fw μ m1 := fw_trans (fw_w (a := 150) (j := 9) (by omega) _) (fg_fw q2)
      rw [q1, Option.bind_some, b2_some, if_neg (by decide)]
      obtain ⟨x, m2, s1, s2, s3⟩ := hks y2 m1 (i + 1) l C q3
      rw [s1, b2_some]
      generalize ks (d + 1) (i + 1) l C = rr at s3 hr
      match rr, s3 with
      | .error e, s3 =>
        rw [s3.1, if_pos rfl, ← hr]
        exact QE_err s3.2.2 s3.2.1 (fw_trans f1 s2)
      | .ok (j, l1, C1, s), s3 =>
        obtain ⟨e1, e2, e3, e4⟩ := s3
        have hr' : (if tkc T n j = 193 then .ok (j + 1, l1, C1, s) else .error j) = r := hr
        rw [e1, if_neg (by decide)]
        unfold f_X6_close
        rw [show (93 : Int32) = Int32.ofNat 93 from rfl, e4.1.sign (by omega), Option.bind_some]
        by_cases y3 : tkc T n j = 193
        · have hj := tkc_0 (T := T) (n := n) (i := j) (by omega)
          obtain ⟨⟨u1, u2, u3, u4, u5⟩, ub, v1, v2, v3⟩ := id e4.2.2
          rw [if_pos y3] at hr'
          rw [decide_eq_true (show tkc T n j = 100 + 93 from y3), if_neg (show ¬ zb true = 0 by decide), u3, show Int32.ofNat (d + 1) - 1 = Int32.ofNat d from n_sub (a := d + 1) (b := 1) (by omega), pI_some, Option.bind_some]
          have A8 : AT (hm_wI m2 150 9 (Int32.ofNat d)) T n j := e4.1.keep (fun j hj => wI_ne (by omega)) (fun j => wI_ne (by omega))
          have B8 : QB (hm_wI m2 150 9 (Int32.ofNat d)) T n ord l1 d C1 := ⟨⟨by rw [wI_ne (by omega)]; exact u1, by rw [wI_ne (by omega)]; exact u2, wI_at _ _ _ _, u4, by omega⟩, ub, by rw [wI_ne (by omega)]; exact v1, by rw [wI_ne (by omega)]; exact v2, fun k x hk => by rw [wI_ne (by omega), wI_ne (by omega)]; exact v3 k x hk⟩
          have e5 := e4.2.1.2
          obtain ⟨m3, w1, w2, w3⟩ := QA.go A8 hj B8 (by omega)
          rw [w1, Option.bind_some, b2_some, if_neg (by decide), ← hr']
          exact ⟨1, m3, rfl, fw_trans (fw_trans f1 s2) (fw_trans (fw_w (a := 150) (j := 9) (by omega) _) (fg_fw w2)), rfl, by omega, by omega, w3⟩
        · rw [if_neg y3] at hr'
          rw [decide_eq_false (show ¬ tkc T n j = 100 + 93 from y3), if_pos (show zb false = 0 from rfl), b2_some, if_pos rfl, ← hr']
          exact QE_err e4.1 e4.2.1.1 (fw_trans f1 s2)
    · rw [if_neg y2] at hr
      rw [if_neg (by rw [show (8 : Int32) = Int32.ofNat 8 from rfl, n_lt (by omega) (by omega)]; exact y2), b2_some, if_pos rfl, ← hr]
      exact QE_err h.1 hi0 (fw_refl μ)
  · rw [if_neg y1] at hr
    rw [decide_eq_false (show ¬ tkc T n i = 100 + 91 from y1), if_pos (show zb false = 0 from rfl), a2]
    by_cases y2 : l < 50
    · rw [if_pos y2] at hr
      rw [if_pos (by rw [show (50 : Int32) = Int32.ofNat 50 from rfl, n_lt (by omega) (by omega)]; exact y2), show Int32.ofNat l + 1 = Int32.ofNat (l + 1) from n_add l 1, pI_some, Option.bind_some]
      have A9 : AT (hm_wI μ 150 8 (Int32.ofNat (l + 1))) T n i := h.1.keep (fun j hj => wI_ne (by omega)) (fun j => wI_ne (by omega))
      have B9 : QB (hm_wI μ 150 8 (Int32.ofNat (l + 1))) T n ord (l + 1) d C := ⟨⟨by rw [wI_ne (by omega)]; exact a1, wI_at _ _ _ _, by rw [wI_ne (by omega)]; exact a3, by omega, a5⟩, bb, by rw [wI_ne (by omega)]; exact c1, by rw [wI_ne (by omega)]; exact c2, fun k x hk => by rw [wI_ne (by omega), wI_ne (by omega)]; exact c3 k x hk⟩
      have f3 : fw μ (hm_wI μ 150 8 (Int32.ofNat (l + 1))) := ⟨rfl, fun a j z z1 z2 z3 => wI_ne (by omega)⟩
      generalize hm_wI μ 150 8 (Int32.ofNat (l + 1)) = m3 at A9 B9 f3 ⊢
      rw [show (0 : Int32) = Int32.ofNat 0 from rfl, show (1000 : Int32) = Int32.ofNat 1000 from rfl, A9.num (by omega) (by omega), Option.bind_some]
      by_cases y3 : tkc T n i = 50 ∧ vlc T n i ≤ 1000
      · have hi := tkc_0 (T := T) (n := n) (i := i) (by omega)
        rw [if_pos y3] at hr
        rw [decide_eq_true (show tkc T n i = 50 ∧ 0 ≤ vlc T n i ∧ vlc T n i ≤ 1000 by omega), if_neg (show ¬ zb true = Int32.ofNat 0 by decide), A9.val y3.1 y3.2]
        obtain ⟨m4, p1, p2, p3⟩ := B9.emit (by omega) (Int32.ofNat 0) (Int32.ofNat (vlc T n i)) (fun z => absurd z (by decide))
        have A4 : AT m4 T n i := A9.keep (fun j _ => p2.2 _ _ (by omega) (by omega) (by omega)) (fun j => p2.2 _ _ (by omega) (by omega) (by omega))
        obtain ⟨m5, q1, q2, q3⟩ := QA.go A4 hi p3 (by rw [List.length_append]; simp only [List.length_cons, List.length_nil]; omega)
        rw [p1, Option.bind_some, q1, Option.bind_some, ← hr]
        refine ⟨1, m5, rfl, fw_trans f3 (fw_trans ⟨p2.1, fun a j z z1 z2 z3 => p2.2 a j (by omega) z2 z3⟩ (fg_fw q2)), rfl, by omega, ?_, q3⟩
        rw [List.length_append]
        simp only [List.length_cons, List.length_nil]
        omega
      · rw [if_neg y3] at hr
        rw [decide_eq_false (show ¬ (tkc T n i = 50 ∧ 0 ≤ vlc T n i ∧ vlc T n i ≤ 1000) by omega), if_pos (show zb false = Int32.ofNat 0 from rfl), B9.1.1]
        have j103 : ∀ v : Nat, v < 10 → plc v (tkc T n i) = (if pc_word ord (tkc T n i) = 99 then -1 else Int32.ofNat (pc_word ord (tkc T n i))) → QE T n ord d i C μ r (f_X6_readPart_J103 k1 k2 k3 v m3) := by
          intro v hv hp
          unfold f_X6_readPart_J103
          rw [A9.place hv, hp, Option.bind_some]
          by_cases y4 : pc_word ord (tkc T n i) = 99
          · rw [if_pos y4] at hr ⊢
            rw [if_pos rfl, ← hr]
            exact QE_err A9 hi0 f3
          · rw [if_neg y4] at hr ⊢
            have w8 := (wd_lt ord _ t4).resolve_left y4
            have nm : ∀ k : Nat, k < 8 → ¬ Int32.ofNat k = -1 := by decide +kernel
            have hi : i < tmy T n := tkc_0 fun z => y4 (by rw [z]; cases ord <;> rfl)
            rw [if_neg (nm _ w8)]
            obtain ⟨m5, q1, q2, q3⟩ := QA.go A9 hi B9 (by omega)
            have f5 := fw_trans f3 (fg_fw q2)
            rw [q1, Option.bind_some, q3.2.2.1.1]
            cases ord with
            | true =>
              rw [if_pos (show zb (!true) = 0 from rfl)]
              by_cases y5 : 5 ≤ pc_word true (tkc T n i)
              · rw [if_pos ⟨rfl, y5⟩] at hr
                rw [if_neg (by rw [show (5 : Int32) = Int32.ofNat 5 from rfl, n_lt (by omega) (by omega)]; omega)]
                unfold f_X6_readWhose
                rw [show (0 : Int32) = Int32.ofNat 0 from rfl, show (7 : Int32) = Int32.ofNat 7 from rfl, q3.1.num (by omega) (by omega), Option.bind_some]
                by_cases y6 : tkc T n (i + 1) = 50 ∧ vlc T n (i + 1) ≤ 7
                · have hi2 := tkc_0 (T := T) (n := n) (i := i + 1) (by omega)
                  rw [if_pos y6] at hr
                  rw [decide_eq_true (show tkc T n (i + 1) = 50 ∧ 0 ≤ vlc T n (i + 1) ∧ vlc T n (i + 1) ≤ 7 by omega), if_neg (show ¬ zb true = Int32.ofNat 0 by decide)]
                  have j28 : ∀ b : Nat, b = (if pc_word true (tkc T n i) = 5 then 5 else 13) → QE T n true d i C μ r (hm_b2 (f_X6_readWhose_J28 (Int32.ofNat (pc_word true (tkc T n i))) (Int32.ofNat b) 1 m5) fun x11 μ12 => Option.bind (hm_rz x11) fun x13 => some (x13, μ12)) := by
                    intro b hb
                    have hb5 : 5 ≤ b ∧ b ≤ 13 := by rw [hb]; split <;> omega
                    unfold f_X6_readWhose_J28
                    rw [q3.1.val y6.1 (by omega), n_add]
                    obtain ⟨m6, p1, p2, p3⟩ := q3.2.2.emit (by omega) 1 (Int32.ofNat (b + vlc T n (i + 1))) (fun _ => Or.inl (by rw [show (4 : Int32) = Int32.ofNat 4 from rfl, Ne, n_eq (by omega) (by omega)]; omega))
                    have A6 : AT m6 T n (i + 1) := q3.1.keep (fun j _ => p2.2 _ _ (by omega) (by omega) (by omega)) (fun j => p2.2 _ _ (by omega) (by omega) (by omega))
                    obtain ⟨m7, s1, s2, s3⟩ := QA.go A6 hi2 p3 (by rw [List.length_append]; simp only [List.length_cons, List.length_nil]; omega)
                    rw [p1, Option.bind_some, s1, Option.bind_some, b2_some, rz_1, Option.bind_some, ← hr]
                    unfold pc_whose
                    rw [← hb]
                    refine ⟨1, m7, rfl, fw_trans f5 (fw_trans ⟨p2.1, fun a j z z1 z2 z3 => p2.2 a j (by omega) z2 z3⟩ (fg_fw s2)), rfl, by omega, ?_, s3⟩
                    rw [List.length_append]
                    simp only [List.length_cons, List.length_nil]
                    omega
                  by_cases y7 : pc_word true (tkc T n i) = 5
                  · rw [if_pos (show Int32.ofNat (pc_word true (tkc T n i)) = 5 by rw [y7]; rfl)]
                    exact j28 5 (by rw [if_pos y7])
                  · rw [if_neg (by rw [show (5 : Int32) = Int32.ofNat 5 from rfl, n_eq (by omega) (by omega)]; exact y7)]
                    exact j28 13 (by rw [if_neg y7])
                · rw [if_neg y6] at hr
                  rw [decide_eq_false (show ¬ (tkc T n (i + 1) = 50 ∧ 0 ≤ vlc T n (i + 1) ∧ vlc T n (i + 1) ≤ 7) by omega), if_pos (show zb false = Int32.ofNat 0 from rfl), b2_some, ← hr]
                  exact QE_err q3.1 q3.2.1.1 f5
              · rw [if_neg (fun z => y5 z.2)] at hr
                rw [if_pos (by rw [show (5 : Int32) = Int32.ofNat 5 from rfl, n_lt (by omega) (by omega)]; omega)]
                have fl : ∃ m6, f_X6_readPart_J136 k1 k2 k3 (Int32.ofNat (pc_word true (tkc T n i))) m5 = some (1, m6) ∧ fw m5 m6 ∧ QA m6 T n true (i + 1) (l + 1) d (C ++ [(1, Int32.ofNat (pc_word true (tkc T n i)))]) := by
                  unfold f_X6_readPart_J136 f_X6_readPart_J160
                  rw [q3.2.2.1.1, if_pos (show zb (!true) = 0 from rfl)]
                  split
                  · exact q6_flag q3 (by omega) 1 _ (Or.inr rfl) (fun _ => Or.inl rfl) k1 k2 k3
                  · exact q6_flag q3 (by omega) 0 _ (Or.inl rfl) (fun z => absurd z (by assumption)) k1 k2 k3
                obtain ⟨m6, s1, s2, s3⟩ := fl
                rw [s1, ← hr]
                refine ⟨1, m6, rfl, fw_trans f5 s2, rfl, by omega, ?_, s3⟩
                rw [List.length_append]
                simp only [List.length_cons, List.length_nil]
                omega
            | false =>
              rw [if_neg (show ¬ (false = true ∧ 5 ≤ pc_word false (tkc T n i)) from fun z => by cases z.1)] at hr
              rw [if_neg (show ¬ zb (!false) = 0 by decide)]
              have fl : ∃ m6, f_X6_readPart_J136 k1 k2 k3 (Int32.ofNat (pc_word false (tkc T n i))) m5 = some (1, m6) ∧ fw m5 m6 ∧ QA m6 T n false (i + 1) (l + 1) d (C ++ [(1, Int32.ofNat (pc_word false (tkc T n i)))]) := by
                unfold f_X6_readPart_J136 f_X6_readPart_J160
                rw [q3.2.2.1.1, if_neg (show ¬ zb (!false) = 0 by decide)]
                exact q6_flag q3 (by omega) 0 _ (Or.inl rfl) (fun _ => Or.inr rfl) k1 k2 k3
              obtain ⟨m6, s1, s2, s3⟩ := fl
              rw [s1, ← hr]
              refine ⟨1, m6, rfl, fw_trans f5 s2, rfl, by omega, ?_, s3⟩
              rw [List.length_append]
              simp only [List.length_cons, List.length_nil]
              omega
        cases ord with
        | true =>
          rw [if_pos (show zb (!true) = Int32.ofNat 0 from rfl)]
          exact j103 4 (by omega) (plc_4 _ t4)
        | false =>
          rw [if_neg (show ¬ zb (!false) = Int32.ofNat 0 by decide)]
          exact j103 3 (by omega) (plc_3 _ t4)
    · rw [if_neg y2] at hr
      rw [if_neg (by rw [show (50 : Int32) = Int32.ofNat 50 from rfl, n_lt (by omega) (by omega)]; exact y2), ← hr]
      exact QE_err h.1 hi0 (fw_refl μ)
end
