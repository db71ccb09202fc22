section LJL
variable {p : Program} {l : Launch} {e : Env} {s : State} {m : MethodId} {below : List Frame} {meth : Method} {c : Code} {b L : Nat} {xs : Nat → Int32} {g : hm_G}
theorem lj_and (x : Int32) : ∃ n : Nat, n < 64 ∧ x &&& 63 = Int32.ofNat n := by
  have h1 : (x &&& 63).toBitVec = x.toBitVec &&& 63#32 := rfl
  have h2 : (x.toBitVec &&& 63#32).toNat < 64 := by
    rw [BitVec.toNat_and]
    exact Nat.lt_of_le_of_lt Nat.and_le_right (by decide)
  refine ⟨(x.toBitVec &&& 63#32).toNat, h2, ?_⟩
  apply Int32.toBitVec_inj.mp
  rw [h1]
  show _ = BitVec.ofNat 32 _
  rw [BitVec.ofNat_toNat]
  simp
set_option maxRecDepth 100000 in
set_option maxHeartbeats 4000000 in
theorem lj_switch {P : hm_M → Prop} (hP : pu_all P) (C : lw_C g p s m meth c b L xs) (hL : L ≤ 3072) {j : Nat} (hj : j + 5 < L) {μ : hm_M} (h : P μ) {cells slots : Nat} (hk : cells + 4 ≤ 600000) (hs : slots + 878 ≤ 7302250) (K : ∀ μ2, P μ2 → lj g p l e s m below meth c b (Int32.ofNat j) 1135 [] μ2 (cells + 4) (slots + 878)) : lj g p l e s m below meth c b (Int32.ofNat j) 33 [.int (xs j &&& 63)] μ cells slots := by
  intro H locs ls w S hl
  have hx := C.1.1
  have hb := C.1.2.1
  have dsw : decode code 33 = .ok (.tableswitch 1102 0 37 #[167, 210, 243, 286, 319, 382, 405, 418, 431, 444, 457, 470, 483, 506, 539, 572, 605, 618, 631, 654, 677, 690, 713, 736, 759, 782, 795, 838, 851, 874, 897, 931, 954, 987, 1020, 1043, 1066, 1089], 167) := by decide +kernel
  obtain ⟨n, hn, hv0⟩ := lj_and (xs j)
  by_cases h38 : 38 ≤ n
  · refine lv_tableOut hx hb dsw (Or.inr ?_) (tgt := 1135) (by decide) ?_
    · rw [hv0, (lj_nat (n := n) (by omega)).1]
      omega
    · exact W.widen (k := cells + 4) (n := slots + 878) (by omega) (by omega) (K μ h H locs ls w S hl)
  · have hc : n = 0 ∨ n = 1 ∨ n = 2 ∨ n = 3 ∨ n = 4 ∨ n = 5 ∨ n = 6 ∨ n = 7 ∨ n = 8 ∨ n = 9 ∨ n = 10 ∨ n = 11 ∨ n = 12 ∨ n = 13 ∨ n = 14 ∨ n = 15 ∨ n = 16 ∨ n = 17 ∨ n = 18 ∨ n = 19 ∨ n = 20 ∨ n = 21 ∨ n = 22 ∨ n = 23 ∨ n = 24 ∨ n = 25 ∨ n = 26 ∨ n = 27 ∨ n = 28 ∨ n = 29 ∨ n = 30 ∨ n = 31 ∨ n = 32 ∨ n = 33 ∨ n = 34 ∨ n = 35 ∨ n = 36 ∨ n = 37 := by omega
    rcases hc with rfl | rfl | rfl | rfl | rfl | rfl | rfl | rfl | rfl | rfl | rfl | rfl | rfl | rfl | rfl | rfl | rfl | rfl | rfl | rfl | rfl | rfl | rfl | rfl | rfl | rfl | rfl | rfl | rfl | rfl | rfl | rfl | rfl | rfl | rfl | rfl | rfl | rfl
    · have hv : (xs j &&& 63) = 0 := by rw [hv0]; rfl
      refine lv_tableIn hx hb dsw (by rw [hv]; decide) (by rw [hv]; decide) (off := 167) (by rw [hv]; rfl) (tgt := 200) (by decide) ?_
      exact lj_person hP C hL (by omega) h (by omega) (by omega) (fun μ2 h2 => K μ2 h2) H locs ls w S hl
    · have hv : (xs j &&& 63) = 1 := by rw [hv0]; rfl
      refine lv_tableIn hx hb dsw (by rw [hv]; decide) (by rw [hv]; decide) (off := 210) (by rw [hv]; rfl) (tgt := 243) (by decide) ?_
      exact lj_of hP C hL (by omega) h (by omega) (by omega) (fun μ2 h2 => K μ2 h2) H locs ls w S hl
    · have hv : (xs j &&& 63) = 2 := by rw [hv0]; rfl
      refine lv_tableIn hx hb dsw (by rw [hv]; decide) (by rw [hv]; decide) (off := 243) (by rw [hv]; rfl) (tgt := 276) (by decide) ?_
      exact lj_asks hP C hL (by omega) h (by omega) (by omega) (fun μ2 h2 => K μ2 h2) H locs ls w S hl
    · have hv : (xs j &&& 63) = 3 := by rw [hv0]; rfl
      refine lv_tableIn hx hb dsw (by rw [hv]; decide) (by rw [hv]; decide) (off := 286) (by rw [hv]; rfl) (tgt := 319) (by decide) ?_
      exact lj_terms hP C hL (by omega) h (by omega) (by omega) (fun μ2 h2 => K μ2 h2) H locs ls w S hl
    · have hv : (xs j &&& 63) = 4 := by rw [hv0]; rfl
      refine lv_tableIn hx hb dsw (by rw [hv]; decide) (by rw [hv]; decide) (off := 319) (by rw [hv]; rfl) (tgt := 352) (by decide) ?_
      exact lj_feed hP C hL (by omega) h (by omega) (by omega) (fun μ2 h2 => K μ2 h2) H locs ls w S hl
    · have hv : (xs j &&& 63) = 5 := by rw [hv0]; rfl
      refine lv_tableIn hx hb dsw (by rw [hv]; decide) (by rw [hv]; decide) (off := 382) (by rw [hv]; rfl) (tgt := 415) (by decide) ?_
      exact lj_end hP C hL (by omega) h (by omega) (by omega) (fun μ2 h2 => K μ2 h2) H locs ls w S hl
    · have hv : (xs j &&& 63) = 6 := by rw [hv0]; rfl
      refine lv_tableIn hx hb dsw (by rw [hv]; decide) (by rw [hv]; decide) (off := 405) (by rw [hv]; rfl) (tgt := 438) (by decide) ?_
      exact lj_row hP C hL (by omega) h (by omega) (by omega) (fun μ2 h2 => K μ2 h2) H locs ls w S hl
    · have hv : (xs j &&& 63) = 7 := by rw [hv0]; rfl
      refine lv_tableIn hx hb dsw (by rw [hv]; decide) (by rw [hv]; decide) (off := 418) (by rw [hv]; rfl) (tgt := 451) (by decide) ?_
      exact lj_gaps hP C hL (by omega) h (by omega) (by omega) (fun μ2 h2 => K μ2 h2) H locs ls w S hl
    · have hv : (xs j &&& 63) = 8 := by rw [hv0]; rfl
      refine lv_tableIn hx hb dsw (by rw [hv]; decide) (by rw [hv]; decide) (off := 431) (by rw [hv]; rfl) (tgt := 464) (by decide) ?_
      exact lj_law hP C hL (by omega) h (by omega) (by omega) (fun μ2 h2 => K μ2 h2) H locs ls w S hl
    · have hv : (xs j &&& 63) = 9 := by rw [hv0]; rfl
      refine lv_tableIn hx hb dsw (by rw [hv]; decide) (by rw [hv]; decide) (off := 444) (by rw [hv]; rfl) (tgt := 477) (by decide) ?_
      exact lj_orders hP C hL (by omega) h (by omega) (by omega) (fun μ2 h2 => K μ2 h2) H locs ls w S hl
    · have hv : (xs j &&& 63) = 10 := by rw [hv0]; rfl
      refine lv_tableIn hx hb dsw (by rw [hv]; decide) (by rw [hv]; decide) (off := 457) (by rw [hv]; rfl) (tgt := 490) (by decide) ?_
      exact lj_fault hP C hL (by omega) h (by omega) (by omega) (fun μ2 h2 => K μ2 h2) H locs ls w S hl
    · have hv : (xs j &&& 63) = 11 := by rw [hv0]; rfl
      refine lv_tableIn hx hb dsw (by rw [hv]; decide) (by rw [hv]; decide) (off := 470) (by rw [hv]; rfl) (tgt := 503) (by decide) ?_
      exact lj_stopped hP C hL (by omega) h (by omega) (by omega) (fun μ2 h2 => K μ2 h2) H locs ls w S hl
    · have hv : (xs j &&& 63) = 12 := by rw [hv0]; rfl
      refine lv_tableIn hx hb dsw (by rw [hv]; decide) (by rw [hv]; decide) (off := 483) (by rw [hv]; rfl) (tgt := 516) (by decide) ?_
      exact lj_force hP C hL (by omega) h (by omega) (by omega) (fun μ2 h2 => K μ2 h2) H locs ls w S hl
    · have hv : (xs j &&& 63) = 13 := by rw [hv0]; rfl
      refine lv_tableIn hx hb dsw (by rw [hv]; decide) (by rw [hv]; decide) (off := 506) (by rw [hv]; rfl) (tgt := 539) (by decide) ?_
      exact lj_take hP C hL (by omega) h (by omega) (by omega) (fun μ2 h2 => K μ2 h2) H locs ls w S hl
    · have hv : (xs j &&& 63) = 14 := by rw [hv0]; rfl
      refine lv_tableIn hx hb dsw (by rw [hv]; decide) (by rw [hv]; decide) (off := 539) (by rw [hv]; rfl) (tgt := 572) (by decide) ?_
      exact lj_loose hP C hL (by omega) h (by omega) (by omega) (fun μ2 h2 => K μ2 h2) H locs ls w S hl
    · have hv : (xs j &&& 63) = 15 := by rw [hv0]; rfl
      refine lv_tableIn hx hb dsw (by rw [hv]; decide) (by rw [hv]; decide) (off := 572) (by rw [hv]; rfl) (tgt := 605) (by decide) ?_
      exact lj_walk hP C hL (by omega) h (by omega) (by omega) (fun μ2 h2 => K μ2 h2) H locs ls w S hl
    · have hv : (xs j &&& 63) = 16 := by rw [hv0]; rfl
      refine lv_tableIn hx hb dsw (by rw [hv]; decide) (by rw [hv]; decide) (off := 605) (by rw [hv]; rfl) (tgt := 638) (by decide) ?_
      exact lj_pass hP C hL (by omega) h (by omega) (by omega) (fun μ2 h2 => K μ2 h2) H locs ls w S hl
    · have hv : (xs j &&& 63) = 17 := by rw [hv0]; rfl
      refine lv_tableIn hx hb dsw (by rw [hv]; decide) (by rw [hv]; decide) (off := 618) (by rw [hv]; rfl) (tgt := 651) (by decide) ?_
      exact lj_undo hP C hL (by omega) h (by omega) (by omega) (fun μ2 h2 => K μ2 h2) H locs ls w S hl
    · have hv : (xs j &&& 63) = 18 := by rw [hv0]; rfl
      refine lv_tableIn hx hb dsw (by rw [hv]; decide) (by rw [hv]; decide) (off := 631) (by rw [hv]; rfl) (tgt := 664) (by decide) ?_
      exact lj_lights hP C hL (by omega) h (by omega) (by omega) (fun μ2 h2 => K μ2 h2) H locs ls w S hl
    · have hv : (xs j &&& 63) = 19 := by rw [hv0]; rfl
      refine lv_tableIn hx hb dsw (by rw [hv]; decide) (by rw [hv]; decide) (off := 654) (by rw [hv]; rfl) (tgt := 687) (by decide) ?_
      exact lj_ring hP C hL (by omega) h (by omega) (by omega) (fun μ2 h2 => K μ2 h2) H locs ls w S hl
    · have hv : (xs j &&& 63) = 20 := by rw [hv0]; rfl
      refine lv_tableIn hx hb dsw (by rw [hv]; decide) (by rw [hv]; decide) (off := 677) (by rw [hv]; rfl) (tgt := 710) (by decide) ?_
      exact lj_rings hP C hL (by omega) h (by omega) (by omega) (fun μ2 h2 => K μ2 h2) H locs ls w S hl
    · have hv : (xs j &&& 63) = 21 := by rw [hv0]; rfl
      refine lv_tableIn hx hb dsw (by rw [hv]; decide) (by rw [hv]; decide) (off := 690) (by rw [hv]; rfl) (tgt := 723) (by decide) ?_
      exact lj_narrow hP C hL (by omega) h (by omega) (by omega) (fun μ2 h2 => K μ2 h2) H locs ls w S hl
    · have hv : (xs j &&& 63) = 22 := by rw [hv0]; rfl
      refine lv_tableIn hx hb dsw (by rw [hv]; decide) (by rw [hv]; decide) (off := 713) (by rw [hv]; rfl) (tgt := 746) (by decide) ?_
      exact lj_gloves hP C hL (by omega) h (by omega) (by omega) (fun μ2 h2 => K μ2 h2) H locs ls w S hl
    · have hv : (xs j &&& 63) = 23 := by rw [hv0]; rfl
      refine lv_tableIn hx hb dsw (by rw [hv]; decide) (by rw [hv]; decide) (off := 736) (by rw [hv]; rfl) (tgt := 769) (by decide) ?_
      exact lj_kept hP C hL (by omega) h (by omega) (by omega) (fun μ2 h2 => K μ2 h2) H locs ls w S hl
    · have hv : (xs j &&& 63) = 24 := by rw [hv0]; rfl
      refine lv_tableIn hx hb dsw (by rw [hv]; decide) (by rw [hv]; decide) (off := 759) (by rw [hv]; rfl) (tgt := 792) (by decide) ?_
      exact lj_two hP C hL (by omega) h (by omega) (by omega) (fun μ2 h2 => K μ2 h2) H locs ls w S hl
    · have hv : (xs j &&& 63) = 25 := by rw [hv0]; rfl
      refine lv_tableIn hx hb dsw (by rw [hv]; decide) (by rw [hv]; decide) (off := 782) (by rw [hv]; rfl) (tgt := 815) (by decide) ?_
      exact lj_stays hP C hL (by omega) h (by omega) (by omega) (fun μ2 h2 => K μ2 h2) H locs ls w S hl
    · have hv : (xs j &&& 63) = 26 := by rw [hv0]; rfl
      refine lv_tableIn hx hb dsw (by rw [hv]; decide) (by rw [hv]; decide) (off := 795) (by rw [hv]; rfl) (tgt := 828) (by decide) ?_
      exact lj_seen hP C hL (by omega) h (by omega) (by omega) (fun μ2 h2 => K μ2 h2) H locs ls w S hl
    · have hv : (xs j &&& 63) = 27 := by rw [hv0]; rfl
      refine lv_tableIn hx hb dsw (by rw [hv]; decide) (by rw [hv]; decide) (off := 838) (by rw [hv]; rfl) (tgt := 871) (by decide) ?_
      exact lj_forget hP C hL (by omega) h (by omega) (by omega) (fun μ2 h2 => K μ2 h2) H locs ls w S hl
    · have hv : (xs j &&& 63) = 28 := by rw [hv0]; rfl
      refine lv_tableIn hx hb dsw (by rw [hv]; decide) (by rw [hv]; decide) (off := 851) (by rw [hv]; rfl) (tgt := 884) (by decide) ?_
      exact lj_fits hP C hL (by omega) h (by omega) (by omega) (fun μ2 h2 => K μ2 h2) H locs ls w S hl
    · have hv : (xs j &&& 63) = 29 := by rw [hv0]; rfl
      refine lv_tableIn hx hb dsw (by rw [hv]; decide) (by rw [hv]; decide) (off := 874) (by rw [hv]; rfl) (tgt := 907) (by decide) ?_
      exact lj_ask hP C hL (by omega) h (by omega) (by omega) (fun μ2 h2 => K μ2 h2) H locs ls w S hl
    · have hv : (xs j &&& 63) = 30 := by rw [hv0]; rfl
      refine lv_tableIn hx hb dsw (by rw [hv]; decide) (by rw [hv]; decide) (off := 897) (by rw [hv]; rfl) (tgt := 930) (by decide) ?_
      exact lj_few hP C hL (by omega) h (by omega) (by omega) (fun μ2 h2 => K μ2 h2) H locs ls w S hl
    · have hv : (xs j &&& 63) = 31 := by rw [hv0]; rfl
      refine lv_tableIn hx hb dsw (by rw [hv]; decide) (by rw [hv]; decide) (off := 931) (by rw [hv]; rfl) (tgt := 964) (by decide) ?_
      exact lj_compare hP C hL (by omega) h (by omega) (by omega) (fun μ2 h2 => K μ2 h2) H locs ls w S hl
    · have hv : (xs j &&& 63) = 32 := by rw [hv0]; rfl
      refine lv_tableIn hx hb dsw (by rw [hv]; decide) (by rw [hv]; decide) (off := 954) (by rw [hv]; rfl) (tgt := 987) (by decide) ?_
      exact lj_days hP C hL (by omega) h (by omega) (by omega) (fun μ2 h2 => K μ2 h2) H locs ls w S hl
    · have hv : (xs j &&& 63) = 33 := by rw [hv0]; rfl
      refine lv_tableIn hx hb dsw (by rw [hv]; decide) (by rw [hv]; decide) (off := 987) (by rw [hv]; rfl) (tgt := 1020) (by decide) ?_
      exact lj_drawn hP C hL (by omega) h (by omega) (by omega) (fun μ2 h2 => K μ2 h2) H locs ls w S hl
    · have hv : (xs j &&& 63) = 34 := by rw [hv0]; rfl
      refine lv_tableIn hx hb dsw (by rw [hv]; decide) (by rw [hv]; decide) (off := 1020) (by rw [hv]; rfl) (tgt := 1053) (by decide) ?_
      exact lj_image hP C hL (by omega) h (by omega) (by omega) (fun μ2 h2 => K μ2 h2) H locs ls w S hl
    · have hv : (xs j &&& 63) = 35 := by rw [hv0]; rfl
      refine lv_tableIn hx hb dsw (by rw [hv]; decide) (by rw [hv]; decide) (off := 1043) (by rw [hv]; rfl) (tgt := 1076) (by decide) ?_
      exact lj_back hP C hL (by omega) h (by omega) (by omega) (fun μ2 h2 => K μ2 h2) H locs ls w S hl
    · have hv : (xs j &&& 63) = 36 := by rw [hv0]; rfl
      refine lv_tableIn hx hb dsw (by rw [hv]; decide) (by rw [hv]; decide) (off := 1066) (by rw [hv]; rfl) (tgt := 1099) (by decide) ?_
      exact lj_count hP C hL (by omega) h (by omega) (by omega) (fun μ2 h2 => K μ2 h2) H locs ls w S hl
    · have hv : (xs j &&& 63) = 37 := by rw [hv0]; rfl
      refine lv_tableIn hx hb dsw (by rw [hv]; decide) (by rw [hv]; decide) (off := 1089) (by rw [hv]; rfl) (tgt := 1122) (by decide) ?_
      exact lj_status hP C hL (by omega) h (by omega) (by omega) (fun μ2 h2 => K μ2 h2) H locs ls w S hl
theorem lj_ge {j L : Nat} (hL : L ≤ 3072) (h : j + 6 ≤ L) : ¬ Int32.ofNat L - 6 < Int32.ofNat j := by
  have e : Int32.ofNat L - 6 = Int32.ofNat (L - 6) := by
    have := Int32.ofNat_add (L - 6) 6
    rw [show L - 6 + 6 = L by omega] at this
    rw [this]
    exact Int32.add_sub_cancel _ _
  rw [e, Int32.lt_iff_toInt_lt, (lj_nat (n := L - 6) (by omega)).1, (lj_nat (n := j) (by omega)).1]
  omega
theorem lj_lt {j L : Nat} (hL : L ≤ 3072) (hj : j ≤ L) (h : L < j + 6) : Int32.ofNat L - 6 < Int32.ofNat j := by
  rw [Int32.lt_iff_toInt_lt, Int32.toInt_sub, (lj_nat (n := L) (by omega)).1, (lj_nat (n := j) (by omega)).1]
  rw [show (6 : Int32).toInt = 6 from rfl]
  rw [Int.bmod_def]
  split <;> omega
theorem lj_stop {j : Nat} {μ : hm_M} {cells slots : Nat} (C : lw_C g p s m meth c b L xs) (hL : L ≤ 3072) (h6 : j ≤ L ∧ L < j + 6) (hk : cells ≤ 600000) (hs : slots ≤ 7302250) : lj g p l e s m below meth c b (Int32.ofNat j) 18 [] μ cells slots := by
  intro H locs ls w S hl
  have hx := C.1.1
  have hb := C.1.2.1
  refine lv_iload_n hx hb (show decode code 18 = .ok (.iload_n 3, 1) by decide +kernel) rfl (lv_at hl 0 rfl) ?_
  refine lv_aload_n hx hb (show decode code 19 = .ok (.aload_n 0, 1) by decide +kernel) rfl (lv_at hl 3 rfl) ?_
  refine va_slen hx hb C.1.2.2.2.2.2.2.1 C.1.2.2.2.2.2.2.2.1 (lj_bA C) S (show decode code 20 = .ok (.arraylength, 1) by decide +kernel) ?_
  refine lv_bipush (v := 6) hx hb (show decode code 21 = .ok (.bipush 6, 2) by decide +kernel) (by decide) ?_
  refine lv_isub hx hb (show decode code 23 = .ok (.isub, 1) by decide +kernel) ?_
  refine lv_icmp_gt hx hb (show decode code 24 = .ok (.if_icmp .gt 1117, 3) by decide +kernel) (tgt := 1141) (by decide) (fun _ => ?_) (fun z => absurd (lj_lt hL h6.1 h6.2) z)
  refine lv_iconst (v := 1) hx hb (show decode code 1141 = .ok (.iconst 1, 1) by decide +kernel) (by decide) ?_
  refine va_forget (fun q hq => by have := S.2.2 q hq; show s.heap.size ≤ q.base; rw [← C.2.1]; exact this) ?_
  refine W.widen (k := 600000) (n := 7302250) hk hs ?_
  exact lw_ret hx hb C.1.2.2.1 C.1.2.2.2.2.2.2.2.2.1 (show decode code 1142 = .ok (.ireturn, 1) by decide +kernel)
theorem lj_loop {P : hm_M → Prop} (hP : pu_all P) (C : lw_C g p s m meth c b L xs) (hL : L ≤ 3072) : ∀ (n k : Nat) (μ : hm_M), L ≤ 6 * k + 6 * n → 6 * k ≤ L → P μ → lj g p l e s m below meth c b (Int32.ofNat (6 * k)) 18 [] μ (141 + 4 * k) (29194 + 878 * k) := by
  intro n
  induction n with
  | zero => exact fun k μ h1 h2 hμ => lj_stop C hL ⟨by omega, by omega⟩ (by omega) (by omega)
  | succ n ih =>
    intro k μ h1 h2 hμ
    by_cases h6 : 6 * k + 6 ≤ L
    · intro H locs ls w S hl
      have hx := C.1.1
      have hb := C.1.2.1
      refine lv_iload_n hx hb (show decode code 18 = .ok (.iload_n 3, 1) by decide +kernel) rfl (lv_at hl 0 rfl) ?_
      refine lv_aload_n hx hb (show decode code 19 = .ok (.aload_n 0, 1) by decide +kernel) rfl (lv_at hl 3 rfl) ?_
      refine va_slen hx hb C.1.2.2.2.2.2.2.1 C.1.2.2.2.2.2.2.2.1 (lj_bA C) S (show decode code 20 = .ok (.arraylength, 1) by decide +kernel) ?_
      refine lv_bipush (v := 6) hx hb (show decode code 21 = .ok (.bipush 6, 2) by decide +kernel) (by decide) ?_
      refine lv_isub hx hb (show decode code 23 = .ok (.isub, 1) by decide +kernel) ?_
      refine lv_icmp_gt hx hb (show decode code 24 = .ok (.if_icmp .gt 1117, 3) by decide +kernel) (tgt := 1141) (by decide) (fun z => ?_) (fun _ => ?_)
      · exact absurd z (lj_ge (by omega) h6)
      · refine lv_aload_n hx hb (show decode code 27 = .ok (.aload_n 0, 1) by decide +kernel) rfl (lv_at hl 3 rfl) ?_
        refine lv_iload_n hx hb (show decode code 28 = .ok (.iload_n 3, 1) by decide +kernel) rfl (lv_at hl 0 rfl) ?_
        have e2 := lj_nat (n := 6 * k) (by omega)
        refine va_sld hx hb C.1.2.2.2.2.2.2.1 C.1.2.2.2.2.2.2.2.1 (lj_bA C) S (show vp_in (Int32.ofNat (6 * k)) L from fun z => ?_) (show decode code 29 = .ok (.iaload, 1) by decide +kernel) ?_
        · rcases z with z | z
          · exact e2.2.2 z
          · rw [e2.2.1] at z
            omega
        · rw [e2.2.1]
          refine lv_bipush (v := 63) hx hb (show decode code 30 = .ok (.bipush 63, 2) by decide +kernel) (by decide) ?_
          refine lv_iand hx hb (show decode code 32 = .ok (.iand, 1) by decide +kernel) ?_
          refine lj_switch hP C hL (by omega) hμ (by omega) (by omega) (fun μ2 hμ2 => ?_) H locs ls w S hl
          intro H locs ls w S hl
          refine lv_iinc (lv' := [(3, .int (Int32.ofNat (6 * (k + 1)))), (2, .ref (hm_ra g 179)), (1, .ref (hm_ra g 64)), (0, .ref b)]) hx hb (show decode code 1135 = .ok (.iinc 3 6, 3) by decide +kernel) hl (k := 0) rfl (v := Int32.ofNat (6 * (k + 1))) (by rw [show 6 * (k + 1) = 6 * k + 6 by omega, Int32.ofNat_add]; rfl) (by decide) rfl (fun ls hl => ?_)
          refine lv_goto hx hb (show decode code 1138 = .ok (.goto (-1120), 3) by decide +kernel) (tgt := 18) (by decide) ?_
          have := ih (k + 1) μ2 (by omega) (by omega) hμ2 H locs ls w S hl
          rw [show 141 + 4 * k + 4 = 141 + 4 * (k + 1) by omega, show 29194 + 878 * k + 878 = 29194 + 878 * (k + 1) by omega]
          exact this
    · exact lj_stop C hL ⟨by omega, by omega⟩ (by omega) (by omega)
/-- the memory before the first object -/
def wm_0 : hm_M := (fun _ _ => 0, fun _ _ => 0, fun _ _ => none, 64, fun _ => 0, fun _ => 0)
def wm_1 : hm_M := i_X9 (hm_al wm_0 9 19)
def wm_2 : hm_M := i_X10 (hm_al wm_1 10 56)
set_option maxRecDepth 100000 in
set_option maxHeartbeats 4000000 in
theorem wm_start {P : hm_M → Prop} (hP : pu_all P) (h0 : P wm_2) (hn : hm_nx wm_1 = 179) (l : Launch) (hL : L ≤ 3072) (C0 : lw_At p s m meth c b L xs) : W p l e room_1 s m #[Value.ref b] below meth c s.heap [] 0 0 (lw_Z below #[Value.ref b] s) (entryFrame m ([Value.ref b] : List Value).toArray 4) := by
  obtain ⟨g, hg, hK, hE⟩ := wa_start C0
  have C : lw_C g p s m meth c b L xs := ⟨C0, hg, hK, hE⟩
  have hx := C.1.1
  have hb := C.1.2.1
  have w0 : hm_W g wm_0 s.heap := ⟨by decide, by show s.heap.size = g.2.2.2 + (64 - 64); rw [hg]; rfl, fun a h1 h2 => by have : a < 64 := h2; omega⟩
  have S0 : va_S (hm_A g) s.heap s.heap [] := va_S.rf
  have hl := lv_entry ([.ref b]) (n := 4) (Nat.le_of_ble_eq_true rfl)
  rw [lg_entry_eq]
  generalize (lg_sl ([.ref b]) ++ List.replicate (4 - (lg_sl ([.ref b])).length) Slot.unset).toArray = ls at hl ⊢
  have hl : lv_has ls 4 [(0, .ref b)] := hl
  refine lw_new (n := 64) (ci := 9) C w0 S0 rfl kl_9 tyX9 tyX9_ok (by decide +kernel) (hm_tb_in (tb_1 (List.mem_of_getElem? (i := 21) rfl)) rfl) (hm_tb_in (tb_1 (List.mem_of_getElem? (i := 22) rfl)) rfl) (hm_tb_in (tb_1 (List.mem_of_getElem? (i := 1) rfl)) rfl) (show decode code 0 = .ok (.new 7, 3) by decide +kernel) (by decide) (by decide) (fun H w S => ?_)
  refine lv_dup hx hb (show decode code 3 = .ok (.dup, 1) by decide +kernel) rfl ?_
  refine lw_callI (a := 64) (fr1 := 2000) (kc := 114) (ks := 6962) C w S hl.1 okm_X9_init (hm_tb_in (tb_1 (List.mem_of_getElem? (i := 23) rfl)) rfl) (show decode code 4 = .ok (.invokespecial 9, 3) by decide +kernel) (by decide) (Nat.le_of_ble_eq_true rfl) (by decide) (by decide) (by decide) (ok_X9_init (Λ := fun _ => True) (by decide) _ ⟨by decide, rfl, rfl, fun i q hq => by
    match i, q, hq with
    | 0, q, hq => cases hq; exact ⟨rfl, rfl⟩
    | i + 1, q, hq => cases hq⟩ trivial) (fun H locs w S => ?_)
  refine lv_astore_n (lv' := [(1, .ref (hm_ra g 64)), (0, .ref b)]) hx hb (show decode code 7 = .ok (.astore_n 1, 1) by decide +kernel) rfl hl (by decide) rfl (fun ls hl => ?_)
  have w : hm_W g wm_1 H := w
  refine lw_new (n := 179) (ci := 10) C w S hn kl_10 tyX10 tyX10_ok (by decide +kernel) (hm_tb_in (tb_5 (List.mem_of_getElem? (i := 137) rfl)) rfl) (hm_tb_in (tb_5 (List.mem_of_getElem? (i := 138) rfl)) rfl) (hm_tb_in (tb_1 (List.mem_of_getElem? (i := 13) rfl)) rfl) (show decode code 8 = .ok (.new 10, 3) by decide +kernel) (by decide) (by decide) (fun H w S => ?_)
  refine lv_dup hx hb (show decode code 11 = .ok (.dup, 1) by decide +kernel) rfl ?_
  have ht : hm_sh (hm_al wm_1 10 56) 179 180 [(10, 56)] := ⟨by decide, by show hm_nx wm_1 + 1 = 180; rw [hn], rfl, fun i q hq => by
    match i, q, hq with
    | 0, q, hq => cases hq; exact ⟨if_pos (e := hm_kd wm_1 179) hn.symm, if_pos (e := hm_ln wm_1 179) hn.symm⟩
    | i + 1, q, hq => cases hq⟩
  refine lw_callI (a := 179) (fr1 := 2000) (kc := 25) (ks := 22157) C w S hl.1 okm_X10_init (hm_tb_in (tb_5 (List.mem_of_getElem? (i := 139) rfl)) rfl) (show decode code 12 = .ok (.invokespecial 12, 3) by decide +kernel) (by decide) (Nat.le_of_ble_eq_true rfl) (by decide) (by decide) (by decide) (ok_X10_init (Λ := fun _ => True) (by decide) _ ht trivial) (fun H locs w S => ?_)
  refine lv_astore_n (lv' := [(2, .ref (hm_ra g 179)), (1, .ref (hm_ra g 64)), (0, .ref b)]) hx hb (show decode code 15 = .ok (.astore_n 2, 1) by decide +kernel) rfl hl (by decide) rfl (fun ls hl => ?_)
  refine lv_iconst (v := 0) hx hb (show decode code 16 = .ok (.iconst 0, 1) by decide +kernel) (by decide) ?_
  refine lv_istore_n (lv' := [(3, .int 0), (2, .ref (hm_ra g 179)), (1, .ref (hm_ra g 64)), (0, .ref b)]) hx hb (show decode code 17 = .ok (.istore_n 3, 1) by decide +kernel) rfl hl (by decide) rfl (fun ls hl => ?_)
  exact lj_loop hP C hL (L + 1) 0 wm_2 (by omega) (by omega) h0 H locs ls w S hl
end LJL
