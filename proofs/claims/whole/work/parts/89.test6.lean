section
variable {T : Nat → Nat} {n : Nat} {ord : Bool}
theorem plc_1 : ∀ v, v < 10 → 5 ≤ v → ∀ c, c < 400 → (plc v c = 0 ↔ c = sW v 0) := by decide +kernel
theorem q6_pass {μ : hm_M} {i l d v : Nat} {C : pc_C} (h : QA μ T n ord i l d C) (hv : v < 10) (hv5 : 5 ≤ v) (h0 : sW v 0 ≠ 0) : (tkc T n i = sW v 0 ∧ ∃ m, f_X6_passWord v μ = some (1, m) ∧ fg μ m ∧ QA m T n ord (i + 1) l d C) ∨ (¬ tkc T n i = sW v 0 ∧ f_X6_passWord v μ = some (0, μ)) := by
  have t4 := tkc_lt (fun k hk => (h.1.1.2.1 k hk).1) i
  have hp := plc_1 v hv hv5 _ t4
  have hc := h.2.1.2
  unfold f_X6_passWord f_X6_passWord_J13
  rw [h.1.place hv, Option.bind_some]
  by_cases y : tkc T n i = sW v 0
  · left
    refine ⟨y, ?_⟩
    obtain ⟨m, q1, q2, q3⟩ := QA.go h.1 (tkc_0 (by omega)) h.2.2 (by omega)
    refine ⟨m, ?_, q2, q3⟩
    rw [if_pos (hp.2 y), if_neg (by decide), q1, Option.bind_some]
    rfl
  · right
    refine ⟨y, ?_⟩
    rw [if_neg fun z => y (hp.1 z), if_pos rfl]
    rfl
theorem QA.leap {μ : hm_M} {j l d k : Nat} {C : pc_C} (h : QA μ T n ord j l d C) (hk : k < C.length) (ho : ∀ q, C[k]? = some q → q.1 ≠ 1) : ∃ m, f_X5_leapToHere 151 (Int32.ofNat k) μ = some m ∧ fw μ m ∧ QA m T n ord j l d (pc_leap C k) := by
  have hn := h.1.1.1
  have hm := (tmy_p T n).2.2
  obtain ⟨h1, ⟨h2, h3⟩, ⟨a1, a2, a3, a4, a5⟩, ⟨b1, b2, b3⟩, c1, c2, c3⟩ := h
  refine ⟨hm_wI μ 153 k (Int32.ofNat C.length), ?_, fw_w (by omega) _, h1.keep (fun j _ => wI_ne (by omega)) (fun j => wI_ne (by omega)), ⟨h2, by rw [leap_len]; exact h3⟩, ⟨by rw [wI_ne (by omega)]; exact a1, by rw [wI_ne (by omega)]; exact a2, by rw [wI_ne (by omega)]; exact a3, a4, a5⟩, ⟨b1, b2, b3⟩, by rw [wI_ne (by omega), leap_len]; exact c1, by rw [wI_ne (by omega)]; exact fl5_leap c2 hk ho, fun i x hi => ?_⟩
  · unfold f_X5_leapToHere
    rw [if_neg (n_nn (by omega)), c1, if_neg (by rw [n_le (by omega) (by omega)]; omega), b2, sd_n (by omega) (by decide)]
    rfl
  · unfold pc_leap at hi
    by_cases y : i = k
    · subst y
      rw [List.getElem?_set_self hk] at hi
      cases hi
      have e1 : C[i]? = some (C[i]'hk) := List.getElem?_eq_getElem hk
      rw [wI_ne (by omega), wI_at, List.getD_eq_getElem?_getD, e1]
      exact ⟨(c3 i _ e1).1, rfl⟩
    · rw [List.getElem?_set_ne (by omega)] at hi
      rw [wI_ne (by omega), wI_ne (by omega)]
      exact c3 i x hi
theorem q6_lg {v c0 d : Nat} {op : Int32} {f : pc_S → pc_S → pc_S} {kp : Nat → Nat → pc_C → pc_R pc_S} {k : hm_M → Option (Int32 × hm_M)} {L : Nat → Int32 → hm_M → Option (Int32 × hm_M)} (hv : v < 10) (hv5 : 5 ≤ v) (hs : sW v 0 = c0) (h0 : c0 ≠ 0) (hst : ∀ F c μ, c < 400 → L (F + 1) (Int32.ofNat c) μ = hm_b2 (f_X6_passWord v μ) fun x4 μ5 => (if x4 = 0 then some (1, μ5) else Option.bind (f_X5_emit 151 op 0 μ5) fun μ7 => hm_b2 (k μ7) fun x8 μ9 => (if x8 = 0 then some (0, μ9) else Option.bind (f_X5_leapToHere 151 (μ5.1 151 3) μ9) fun μ11 => L F (Int32.ofNat (c + 1)) μ11))) (hop : op ≠ 1) (hpre : ∀ i l C j l1 C1 s, C.length ≤ i → kp i l C = .ok (j, l1, C1, s) → pc_pre C C1) (hp : ∀ m i l C, QA m T n ord i l d C → QE T n ord d i C m (kp i l C) (k m)) : ∀ q F c μ i l C s i0 C0 μ0, tmy T n - i ≤ q → tmy T n - i < F → c < i → i0 < i → (C0.length ≤ C.length ∧ C.length + i0 ≤ C0.length + i) → fw μ0 μ → QA μ T n ord i l d C → QE T n ord d i0 C0 μ0 (pc_lg (tkc T n) c0 op f kp q i l C s) (L F (Int32.ofNat c) μ)
  | q, 0, c, μ, i, l, C, s, i0, C0, μ0, _, h, _, _, _, _, _ => absurd h (Nat.not_lt_zero _)
  | 0, F + 1, c, μ, i, l, C, s, i0, C0, μ0, hq, hF, hci, hi0, hC, hf, hR => by
    have hn := hR.1.1.1
    have hm := (tmy_p T n).2.2
    have := hR.2.1.1
    have t0 := tkc_end (T := T) (n := n) (i := i) (by omega)
    rcases q6_pass hR hv hv5 (by rw [hs]; exact h0) with ⟨p1, -⟩ | ⟨-, p2⟩
    · rw [hs] at p1; omega
    · rw [hst F c μ (by omega), p2, b2_some, if_pos rfl]
      exact ⟨1, μ, rfl, hf, rfl, hi0, hC, hR⟩
  | q + 1, F + 1, c, μ, i, l, C, s, i0, C0, μ0, hq, hF, hci, hi0, hC, hf, hR => by
    have hn := hR.1.1.1
    have hm := (tmy_p T n).2.2
    have hi1 := hR.2.1.1
    have hc1 := hR.2.1.2
    rw [hst F c μ (by omega)]
    unfold pc_lg
    rcases q6_pass hR hv hv5 (by rw [hs]; exact h0) with ⟨p1, m1, p2, p3, p4⟩ | ⟨p1, p2⟩
    · rw [hs] at p1
      rw [if_pos p1, p2, b2_some, if_neg (by decide)]
      have i2 := p4.2.1.1
      obtain ⟨m2, q1, q2, q3⟩ := p4.emit (by omega) op 0 (fun _ => Or.inl (by decide))
      obtain ⟨x, m3, s1, s2, s3⟩ := hp m2 (i + 1) l _ q3
      have f2 := fw_trans hf (fw_trans (fg_fw p3) (fw_trans q2 s2))
      have e51 : m1.1 151 3 = Int32.ofNat C.length := p4.2.2.2.2.1
      rw [q1, Option.bind_some, s1, b2_some, e51]
      have ll : (C ++ [((op, 0) : Int32 × Int32)]).length = C.length + 1 := by rw [List.length_append]; rfl
      generalize hkp : kp (i + 1) l (C ++ [(op, 0)]) = r at s3
      match r, hkp, s3 with
      | .error e, hkp, s3 =>
        rw [s3.1, if_pos rfl]
        exact QE_err s3.2.2 s3.2.1 f2
      | .ok (j, l1, C1, t), hkp, s3 =>
        obtain ⟨e1, e2, e3, e4⟩ := s3
        rw [ll] at e3
        have hq : ∀ q, C1[C.length]? = some q → q.1 ≠ 1 := fun q hq => by
          rw [(hpre _ _ _ _ _ _ _ (by rw [ll]; omega) hkp).2 C.length (by rw [ll]; omega), List.getElem?_append_right (Nat.le_refl _), Nat.sub_self] at hq
          cases hq
          exact hop
        obtain ⟨m4, r1, r2, r3⟩ := e4.leap (k := C.length) (by omega) hq
        rw [e1, if_neg (by decide), r1, Option.bind_some]
        exact q6_lg hv hv5 hs h0 hst hop hpre hp q F (c + 1) m4 j l1 _ _ i0 C0 μ0 (by omega) (by omega) (by omega) (by omega) (by rw [leap_len]; omega) (fw_trans f2 r2) r3
    · rw [hs] at p1
      rw [if_neg p1, p2, b2_some, if_pos rfl]
      exact ⟨1, μ, rfl, hf, rfl, hi0, hC, hR⟩
theorem q6_nots {k1 k2 k3 : hm_M → Option (Int32 × hm_M)} {e : Int32 → hm_M → Option (Int32 × hm_M)} {d : Nat} : ∀ q F c μ i l C b, tmy T n - i ≤ q → tmy T n - i < F → c ≤ i → QA μ T n ord i l d C → ∃ m, f_X6_readPlain_L4 k1 k2 k3 e F (zb b) (Int32.ofNat c) μ = e (zb (pc_nots (tkc T n) q i b).2) m ∧ fw μ m ∧ i ≤ (pc_nots (tkc T n) q i b).1 ∧ (i = (pc_nots (tkc T n) q i b).1 → (pc_nots (tkc T n) q i b).2 = b) ∧ QA m T n ord (pc_nots (tkc T n) q i b).1 l d C
  | q, 0, c, μ, i, l, C, b, _, h, _, _ => absurd h (Nat.not_lt_zero _)
  | 0, F + 1, c, μ, i, l, C, b, hq, hF, hc, hR => by
    have hn := hR.1.1.1
    have hm := (tmy_p T n).2.2
    have := hR.2.1.1
    have t0 := tkc_end (T := T) (n := n) (i := i) (by omega)
    refine ⟨μ, ?_, fw_refl μ, Nat.le_refl _, fun _ => rfl, hR⟩
    rw [f_X6_readPlain_L4]
    by_cases z : 400 ≤ c
    · rw [if_pos (by rw [show (400 : Int32) = Int32.ofNat 400 from rfl, n_le (by omega) (by omega)]; exact z)]
      rfl
    · rw [if_neg (by rw [show (400 : Int32) = Int32.ofNat 400 from rfl, n_le (by omega) (by omega)]; exact z)]
      rcases q6_pass (v := 9) hR (by omega) (by omega) (by decide) with ⟨p1, -⟩ | ⟨-, p2⟩
      · rw [t0] at p1; exact absurd p1 (by decide)
      · rw [p2, b2_some, if_pos rfl]
        rfl
  | q + 1, F + 1, c, μ, i, l, C, b, hq, hF, hc, hR => by
    have hn := hR.1.1.1
    have hm := (tmy_p T n).2.2
    have hi1 := hR.2.1.1
    unfold pc_nots
    rw [f_X6_readPlain_L4]
    by_cases z : 400 ≤ c
    · have t0 := tkc_end (T := T) (n := n) (i := i) (by omega)
      rw [if_pos (by rw [show (400 : Int32) = Int32.ofNat 400 from rfl, n_le (by omega) (by omega)]; exact z), if_neg (by rw [t0]; decide)]
      exact ⟨μ, rfl, fw_refl μ, Nat.le_refl _, fun _ => rfl, hR⟩
    · rw [if_neg (by rw [show (400 : Int32) = Int32.ofNat 400 from rfl, n_le (by omega) (by omega)]; exact z)]
      rcases q6_pass (v := 9) hR (by omega) (by omega) (by decide) with ⟨p1, m1, p2, p3, p4⟩ | ⟨p1, p2⟩
      · have p1' : tkc T n i = 7 := p1
        have hi := tkc_0 (T := T) (n := n) (i := i) (by omega)
        rw [if_pos p1', p2, b2_some, if_neg (by decide)]
        obtain ⟨m, r1, r2, r3, r4, r5⟩ := q6_nots (k1 := k1) (k2 := k2) (k3 := k3) (e := e) q F (c + 1) m1 (i + 1) l C (!b) (by omega) (by omega) (by omega) p4
        refine ⟨m, ?_, fw_trans (fg_fw p3) r2, by omega, fun w => by omega, r5⟩
        unfold f_X6_readPlain_J29
        rw [show Int32.ofNat c + 1 = Int32.ofNat (c + 1) from n_add c 1]
        cases b with
        | false => rw [if_pos (show zb false = 0 from rfl)]; exact r1
        | true => rw [if_neg (show ¬ zb true = 0 by decide)]; exact r1
      · have p1' : ¬ tkc T n i = 7 := p1
        rw [if_neg p1', p2, b2_some, if_pos rfl]
        exact ⟨μ, rfl, fw_refl μ, Nat.le_refl _, fun _ => rfl, hR⟩
end
