section
variable {T : Nat → Nat} {n : Nat} {ord : Bool}
theorem q6_first2 {v c0 d : Nat} {op : Int32} {f : pc_S → pc_S → pc_S} {kp : Nat → Nat → pc_C → pc_R pc_S} {k : hm_M → Option (Int32 × hm_M)} {L : Nat → Int32 → hm_M → Option (Int32 × hm_M)} (hv : v < 10) (hv5 : 5 ≤ v) (hs : sW v 0 = c0) (h0 : c0 ≠ 0) (hst : ∀ F c μ, c < 400 → L (F + 1) (Int32.ofNat c) μ = hm_b2 (f_X6_passWord v μ) fun x4 μ5 => (if x4 = 0 then some (1, μ5) else Option.bind (f_X5_emit 151 op 0 μ5) fun μ7 => hm_b2 (k μ7) fun x8 μ9 => (if x8 = 0 then some (0, μ9) else Option.bind (f_X5_leapToHere 151 (μ5.1 151 3) μ9) fun μ11 => L F (Int32.ofNat (c + 1)) μ11))) (hop : op ≠ 1) (hpre : ∀ i l C j l1 C1 s, C.length ≤ i → kp i l C = .ok (j, l1, C1, s) → pc_pre C C1) (hp : ∀ m i l C, QA m T n ord i l d C → QE T n ord d i C m (kp i l C) (k m)) {μ : hm_M} {i l : Nat} {C : pc_C} (h : QA μ T n ord i l d C) : QE T n ord d i C μ (pc_b (kp i l C) fun j l1 C1 s => pc_lg (tkc T n) c0 op f kp 400 j l1 C1 s) (hm_b2 (k μ) fun x2 μ3 => (if x2 = 0 then some (0, μ3) else L hm_fu 0 μ3)) := by
  have hn := h.1.1.1
  have hm := (tmy_p T n).2.2
  obtain ⟨x, m2, s1, s2, s3⟩ := hp μ i l C h
  rw [s1, b2_some]
  generalize kp i l C = r at s3
  match r, s3 with
  | .error e, s3 =>
    rw [s3.1, if_pos rfl]
    exact QE_err s3.2.2 s3.2.1 s2
  | .ok (j, l1, C1, t), s3 =>
    obtain ⟨e1, e2, e3, e4⟩ := s3
    rw [e1, if_neg (by decide)]
    exact q6_lg hv hv5 hs h0 hst hop hpre hp 400 hm_fu 0 m2 j l1 C1 t i C μ (by omega) (fu_lt (by omega)) (by omega) (by omega) e3 s2 e4
theorem b6_step {k1 k2 k3 : hm_M → Option (Int32 × hm_M)} (F c : Nat) (μ : hm_M) (hc : c < 400) : f_X6_readBoth_L11 k1 k2 k3 (fun μz12 => some (1, μz12)) (F + 1) (Int32.ofNat c) μ = hm_b2 (f_X6_passWord 8 μ) fun x4 μ5 => (if x4 = 0 then some (1, μ5) else Option.bind (f_X5_emit 151 12 0 μ5) fun μ7 => hm_b2 (k2 μ7) fun x8 μ9 => (if x8 = 0 then some (0, μ9) else Option.bind (f_X5_leapToHere 151 (μ5.1 151 3) μ9) fun μ11 => f_X6_readBoth_L11 k1 k2 k3 (fun μz12 => some (1, μz12)) F (Int32.ofNat (c + 1)) μ11)) := by
  rw [f_X6_readBoth_L11, if_neg (by rw [show (400 : Int32) = Int32.ofNat 400 from rfl, n_le (by omega) (by omega)]; omega), show Int32.ofNat c + 1 = Int32.ofNat (c + 1) from n_add c 1]
theorem e6_step {k1 k2 k3 : hm_M → Option (Int32 × hm_M)} (F c : Nat) (μ : hm_M) (hc : c < 400) : f_X6_readTest_L11 k1 k2 k3 (fun μz12 => some (1, μz12)) (F + 1) (Int32.ofNat c) μ = hm_b2 (f_X6_passWord 7 μ) fun x4 μ5 => (if x4 = 0 then some (1, μ5) else Option.bind (f_X5_emit 151 11 0 μ5) fun μ7 => hm_b2 (k1 μ7) fun x8 μ9 => (if x8 = 0 then some (0, μ9) else Option.bind (f_X5_leapToHere 151 (μ5.1 151 3) μ9) fun μ11 => f_X6_readTest_L11 k1 k2 k3 (fun μz12 => some (1, μz12)) F (Int32.ofNat (c + 1)) μ11)) := by
  rw [f_X6_readTest_L11, if_neg (by rw [show (400 : Int32) = Int32.ofNat 400 from rfl, n_le (by omega) (by omega)]; omega), show Int32.ofNat c + 1 = Int32.ofNat (c + 1) from n_add c 1]
theorem q6_test : ∀ (N d M : Nat), 9 ≤ N + d → d ≤ 8 → 3 * N ≤ M → ∀ (μ : hm_M) (i l : Nat) (C : pc_C), QA μ T n ord i l d C → QE T n ord d i C μ (pc_test ord (tkc T n) (vlc T n) N d i l C) ((K_X6_readBoth M).2.2 μ)
  | 0, d, M, h1, h2, _, μ, i, l, C, h => by omega
  | N + 1, d, M, h1, h2, h3, μ, i, l, C, h => by
    match M, h3 with
    | 0, h3 => omega
    | 1, h3 => omega
    | 2, h3 => omega
    | M + 3, h3 =>
      have hn := h.1.1.1
      have hm := (tmy_p T n).2.2
      have htest : ∀ d i l C j l1 C1 s, C.length ≤ i → pc_test ord (tkc T n) (vlc T n) N d i l C = .ok (j, l1, C1, s) → okS (tmy T n) (if ord = true then 21 else 8) tS i l C j l1 C1 s := fun d i l C j l1 C1 s hC hh => test_ok (fun k hk => tkc_end hk) (by omega) rfl _ _ _ _ _ _ _ _ _ hC hh
      have hplain : ∀ m i l C, QA m T n ord i l d C → QE T n ord d i C m (pc_plain ord (tkc T n) (vlc T n) (pc_test ord (tkc T n) (vlc T n) N) d i l C) ((K_X6_readBoth (M + 1)).2.1 m) := fun m i l C hR => q6_plain hR fun hd m i l C hR => q6_test N (d + 1) M (by omega) (by omega) (by omega) m i l C hR
      have hboth : ∀ m i l C, QA m T n ord i l d C → QE T n ord d i C m (pc_both ord (tkc T n) (vlc T n) (pc_test ord (tkc T n) (vlc T n) N) d i l C) ((K_X6_readBoth (M + 2)).1 m) := fun m i l C hR => q6_first2 (v := 8) (c0 := 6) (op := 12) (f := pc_an) (k := (K_X6_readBoth (M + 1)).2.1) (L := f_X6_readBoth_L11 (K_X6_readBoth (M + 1)).1 (K_X6_readBoth (M + 1)).2.1 (K_X6_readBoth (M + 1)).2.2 (fun μz12 => some (1, μz12))) (by omega) (by omega) rfl (by omega) (fun F c μ hc => b6_step F c μ hc) (by decide) (fun i l C j l1 C1 s hC hh => (plain_ok (N := tmy T n) (fun k hk => tkc_end hk) rfl htest hC hh).2.1) hplain hR
      exact q6_first2 (v := 7) (c0 := 5) (op := 11) (f := pc_or) (k := (K_X6_readBoth (M + 2)).1) (L := f_X6_readTest_L11 (K_X6_readBoth (M + 2)).1 (K_X6_readBoth (M + 2)).2.1 (K_X6_readBoth (M + 2)).2.2 (fun μz12 => some (1, μz12))) (by omega) (by omega) rfl (by omega) (fun F c μ hc => e6_step F c μ hc) (by decide) (fun i l C j l1 C1 s hC hh => (both_ok (N := tmy T n) (fun k hk => tkc_end hk) (by omega) rfl htest hC hh).2.1) hboth h
theorem q6_Test {μ : hm_M} {i l : Nat} {C : pc_C} (h : QA μ T n ord i l 0 C) : QE T n ord 0 i C μ (pc_test ord (tkc T n) (vlc T n) 10 0 i l C) (F_X6_readTest μ) := q6_test 10 0 40 (by omega) (by omega) (by omega) μ i l C h
end
