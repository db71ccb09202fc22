section LJC
variable {p : Program} {l : Launch} {e : Env} {s : State} {m : MethodId} {below : List Frame} {meth : Method} {c : Code} {b L : Nat} {xs : Nat → Int32} {g : hm_G} {cells slots : Nat}
set_option maxRecDepth 100000 in
theorem lj_ring {P : hm_M → Prop} (hP : pu_all P) (C : lw_C g p s m meth c b L xs) (hL : L ≤ 3072) {j : Nat} (hj : j + 5 < L) {μ : hm_M} (h : P μ) (hk : cells + 4 ≤ 600000) (hs : slots + 878 ≤ 7302250) (K : ∀ μ2, P μ2 → lj g p l e s m below meth c b (Int32.ofNat j) 1135 [] μ2 (cells + 4) (slots + 878)) : lj g p l e s m below meth c b (Int32.ofNat j) 687 [] μ cells slots := by
  obtain ⟨ν, hν⟩ := hP.1 μ h
  obtain ⟨r, μ1, μ2, e9, e10, h2⟩ := hP.2.2.2.1.2.2.2.1 (xs (j + 1)) μ h
  refine lj_x C (show decode code 687 = .ok (.aload_n 1, 1) by decide +kernel) (pc' := 688) rfl ?_
  refine lj_arg (k := 1) C hL (by omega) rfl (show decode code 688 = .ok (.aload_n 0, 1) by decide +kernel) (show decode code 689 = .ok (.iload_n 3, 1) by decide +kernel) (show decode code 690 = .ok (.iconst 1, 1) by decide +kernel) (show decode code 691 = .ok (.iadd, 1) by decide +kernel) (show decode code 692 = .ok (.iaload, 1) by decide +kernel) (pc' := 693) rfl ?_
  have c9 := ok_X9_ring (fr := 2000) (ν := ν) (by decide) (xs (j + 1)) μ hν e9
  refine lj_call (As := [.int (xs (j + 1))]) (ci := 9) (st := []) C okm_X9_ring (hm_tb_in (tb_4 (List.mem_of_getElem? (i := 145) rfl)) rfl) (show decode code 693 = .ok (.invokevirtual 94, 3) by decide +kernel) (pc' := 696) rfl rfl rfl (by decide) (la_o hν (by decide) rfl) rfl rfl (Nat.le_of_ble_eq_true rfl) (Nat.le_of_ble_eq_true rfl) (by omega) (by omega) c9 ?_
  obtain ⟨ν1, hν1⟩ : hm_LX μ1 := ⟨_, c9.1⟩
  refine lj_m C (show decode code 696 = .ok (.aload_n 2, 1) by decide +kernel) (pc' := 697) rfl ?_
  refine lj_arg (k := 1) C hL (by omega) rfl (show decode code 697 = .ok (.aload_n 0, 1) by decide +kernel) (show decode code 698 = .ok (.iload_n 3, 1) by decide +kernel) (show decode code 699 = .ok (.iconst 1, 1) by decide +kernel) (show decode code 700 = .ok (.iadd, 1) by decide +kernel) (show decode code 701 = .ok (.iaload, 1) by decide +kernel) (pc' := 702) rfl ?_
  have c10 := ok_X10_ring (fr := 2000) (ν := ν1) (by decide) (xs (j + 1)) μ1 hν1 e10
  refine lj_call (As := [.int (xs (j + 1))]) (ci := 10) (st := [.int r]) C okm_X10_ring (hm_tb_in (tb_7 (List.mem_of_getElem? (i := 206) rfl)) rfl) (show decode code 702 = .ok (.invokevirtual 97, 3) by decide +kernel) (pc' := 705) rfl rfl rfl (by decide) (la_o hν1 (by decide) rfl) rfl rfl (Nat.le_of_ble_eq_true rfl) (Nat.le_of_ble_eq_true rfl) (by omega) (by omega) c10 ?_
  refine lj_eq C (show decode code 705 = .ok (.if_icmp .eq 430, 3) by decide +kernel) (pc' := 1135) (by decide) ?_
  exact lj_w (by omega) (by omega) (K μ2 h2)
set_option maxRecDepth 100000 in
theorem lj_rings {P : hm_M → Prop} (hP : pu_all P) (C : lw_C g p s m meth c b L xs) (hL : L ≤ 3072) {j : Nat} (hj : j + 5 < L) {μ : hm_M} (h : P μ) (hk : cells + 4 ≤ 600000) (hs : slots + 878 ≤ 7302250) (K : ∀ μ2, P μ2 → lj g p l e s m below meth c b (Int32.ofNat j) 1135 [] μ2 (cells + 4) (slots + 878)) : lj g p l e s m below meth c b (Int32.ofNat j) 710 [] μ cells slots := by
  obtain ⟨ν, hν⟩ := hP.1 μ h
  obtain ⟨r, μ1, μ2, e9, e10, h2⟩ := hP.2.2.2.1.2.2.2.2.1  μ h
  refine lj_x C (show decode code 710 = .ok (.aload_n 1, 1) by decide +kernel) (pc' := 711) rfl ?_
  have c9 := ok_X9_rings (fr := 2000) (ν := ν) (by decide)  μ hν e9
  refine lj_call (As := []) (ci := 9) (st := []) C okm_X9_rings (hm_tb_in (tb_4 (List.mem_of_getElem? (i := 227) rfl)) rfl) (show decode code 711 = .ok (.invokevirtual 98, 3) by decide +kernel) (pc' := 714) rfl rfl rfl (by decide) (la_o hν (by decide) rfl) rfl rfl (Nat.le_of_ble_eq_true rfl) (Nat.le_of_ble_eq_true rfl) (by omega) (by omega) c9 ?_
  obtain ⟨ν1, hν1⟩ : hm_LX μ1 := ⟨_, c9.1⟩
  refine lj_m C (show decode code 714 = .ok (.aload_n 2, 1) by decide +kernel) (pc' := 715) rfl ?_
  have c10 := ok_X10_rings (fr := 2000) (ν := ν1) (by decide)  μ1 hν1 e10
  refine lj_call (As := []) (ci := 10) (st := [.int r]) C okm_X10_rings (hm_tb_in (tb_8 (List.mem_of_getElem? (i := 3) rfl)) rfl) (show decode code 715 = .ok (.invokevirtual 101, 3) by decide +kernel) (pc' := 718) rfl rfl rfl (by decide) (la_o hν1 (by decide) rfl) rfl rfl (Nat.le_of_ble_eq_true rfl) (Nat.le_of_ble_eq_true rfl) (by omega) (by omega) c10 ?_
  refine lj_eq C (show decode code 718 = .ok (.if_icmp .eq 417, 3) by decide +kernel) (pc' := 1135) (by decide) ?_
  exact lj_w (by omega) (by omega) (K μ2 h2)
set_option maxRecDepth 100000 in
theorem lj_narrow {P : hm_M → Prop} (hP : pu_all P) (C : lw_C g p s m meth c b L xs) (hL : L ≤ 3072) {j : Nat} (hj : j + 5 < L) {μ : hm_M} (h : P μ) (hk : cells + 4 ≤ 600000) (hs : slots + 878 ≤ 7302250) (K : ∀ μ2, P μ2 → lj g p l e s m below meth c b (Int32.ofNat j) 1135 [] μ2 (cells + 4) (slots + 878)) : lj g p l e s m below meth c b (Int32.ofNat j) 723 [] μ cells slots := by
  obtain ⟨ν, hν⟩ := hP.1 μ h
  obtain ⟨r, μ1, μ2, e9, e10, h2⟩ := hP.2.2.2.1.2.2.2.2.2.1 (xs (j + 1)) μ h
  refine lj_x C (show decode code 723 = .ok (.aload_n 1, 1) by decide +kernel) (pc' := 724) rfl ?_
  refine lj_arg (k := 1) C hL (by omega) rfl (show decode code 724 = .ok (.aload_n 0, 1) by decide +kernel) (show decode code 725 = .ok (.iload_n 3, 1) by decide +kernel) (show decode code 726 = .ok (.iconst 1, 1) by decide +kernel) (show decode code 727 = .ok (.iadd, 1) by decide +kernel) (show decode code 728 = .ok (.iaload, 1) by decide +kernel) (pc' := 729) rfl ?_
  have c9 := ok_X9_narrow (fr := 2000) (ν := ν) (by decide) (xs (j + 1)) μ hν e9
  refine lj_call (As := [.int (xs (j + 1))]) (ci := 9) (st := []) C okm_X9_narrow (hm_tb_in (tb_4 (List.mem_of_getElem? (i := 238) rfl)) rfl) (show decode code 729 = .ok (.invokevirtual 102, 3) by decide +kernel) (pc' := 732) rfl rfl rfl (by decide) (la_o hν (by decide) rfl) rfl rfl (Nat.le_of_ble_eq_true rfl) (Nat.le_of_ble_eq_true rfl) (by omega) (by omega) c9 ?_
  obtain ⟨ν1, hν1⟩ : hm_LX μ1 := ⟨_, c9.1⟩
  refine lj_m C (show decode code 732 = .ok (.aload_n 2, 1) by decide +kernel) (pc' := 733) rfl ?_
  refine lj_arg (k := 1) C hL (by omega) rfl (show decode code 733 = .ok (.aload_n 0, 1) by decide +kernel) (show decode code 734 = .ok (.iload_n 3, 1) by decide +kernel) (show decode code 735 = .ok (.iconst 1, 1) by decide +kernel) (show decode code 736 = .ok (.iadd, 1) by decide +kernel) (show decode code 737 = .ok (.iaload, 1) by decide +kernel) (pc' := 738) rfl ?_
  have c10 := ok_X10_narrow (fr := 2000) (ν := ν1) (by decide) (xs (j + 1)) μ1 hν1 e10
  refine lj_call (As := [.int (xs (j + 1))]) (ci := 10) (st := [.int r]) C okm_X10_narrow (hm_tb_in (tb_7 (List.mem_of_getElem? (i := 230) rfl)) rfl) (show decode code 738 = .ok (.invokevirtual 105, 3) by decide +kernel) (pc' := 741) rfl rfl rfl (by decide) (la_o hν1 (by decide) rfl) rfl rfl (Nat.le_of_ble_eq_true rfl) (Nat.le_of_ble_eq_true rfl) (by omega) (by omega) c10 ?_
  refine lj_eq C (show decode code 741 = .ok (.if_icmp .eq 394, 3) by decide +kernel) (pc' := 1135) (by decide) ?_
  exact lj_w (by omega) (by omega) (K μ2 h2)
set_option maxRecDepth 100000 in
theorem lj_gloves {P : hm_M → Prop} (hP : pu_all P) (C : lw_C g p s m meth c b L xs) (hL : L ≤ 3072) {j : Nat} (hj : j + 5 < L) {μ : hm_M} (h : P μ) (hk : cells + 4 ≤ 600000) (hs : slots + 878 ≤ 7302250) (K : ∀ μ2, P μ2 → lj g p l e s m below meth c b (Int32.ofNat j) 1135 [] μ2 (cells + 4) (slots + 878)) : lj g p l e s m below meth c b (Int32.ofNat j) 746 [] μ cells slots := by
  obtain ⟨ν, hν⟩ := hP.1 μ h
  obtain ⟨r, μ1, μ2, e9, e10, h2⟩ := hP.2.2.2.1.2.2.2.2.2.2.1 (xs (j + 1)) μ h
  refine lj_x C (show decode code 746 = .ok (.aload_n 1, 1) by decide +kernel) (pc' := 747) rfl ?_
  refine lj_arg (k := 1) C hL (by omega) rfl (show decode code 747 = .ok (.aload_n 0, 1) by decide +kernel) (show decode code 748 = .ok (.iload_n 3, 1) by decide +kernel) (show decode code 749 = .ok (.iconst 1, 1) by decide +kernel) (show decode code 750 = .ok (.iadd, 1) by decide +kernel) (show decode code 751 = .ok (.iaload, 1) by decide +kernel) (pc' := 752) rfl ?_
  have c9 := ok_X9_gloves (fr := 2000) (ν := ν) (by decide) (xs (j + 1)) μ hν e9
  refine lj_call (As := [.int (xs (j + 1))]) (ci := 9) (st := []) C okm_X9_gloves (hm_tb_in (tb_5 (List.mem_of_getElem? (i := 2) rfl)) rfl) (show decode code 752 = .ok (.invokevirtual 106, 3) by decide +kernel) (pc' := 755) rfl rfl rfl (by decide) (la_o hν (by decide) rfl) rfl rfl (Nat.le_of_ble_eq_true rfl) (Nat.le_of_ble_eq_true rfl) (by omega) (by omega) c9 ?_
  obtain ⟨ν1, hν1⟩ : hm_LX μ1 := ⟨_, c9.1⟩
  refine lj_m C (show decode code 755 = .ok (.aload_n 2, 1) by decide +kernel) (pc' := 756) rfl ?_
  refine lj_arg (k := 1) C hL (by omega) rfl (show decode code 756 = .ok (.aload_n 0, 1) by decide +kernel) (show decode code 757 = .ok (.iload_n 3, 1) by decide +kernel) (show decode code 758 = .ok (.iconst 1, 1) by decide +kernel) (show decode code 759 = .ok (.iadd, 1) by decide +kernel) (show decode code 760 = .ok (.iaload, 1) by decide +kernel) (pc' := 761) rfl ?_
  have c10 := ok_X10_gloves (fr := 2000) (ν := ν1) (by decide) (xs (j + 1)) μ1 hν1 e10
  refine lj_call (As := [.int (xs (j + 1))]) (ci := 10) (st := [.int r]) C okm_X10_gloves (hm_tb_in (tb_7 (List.mem_of_getElem? (i := 234) rfl)) rfl) (show decode code 761 = .ok (.invokevirtual 109, 3) by decide +kernel) (pc' := 764) rfl rfl rfl (by decide) (la_o hν1 (by decide) rfl) rfl rfl (Nat.le_of_ble_eq_true rfl) (Nat.le_of_ble_eq_true rfl) (by omega) (by omega) c10 ?_
  refine lj_eq C (show decode code 764 = .ok (.if_icmp .eq 371, 3) by decide +kernel) (pc' := 1135) (by decide) ?_
  exact lj_w (by omega) (by omega) (K μ2 h2)
set_option maxRecDepth 100000 in
theorem lj_kept {P : hm_M → Prop} (hP : pu_all P) (C : lw_C g p s m meth c b L xs) (hL : L ≤ 3072) {j : Nat} (hj : j + 5 < L) {μ : hm_M} (h : P μ) (hk : cells + 4 ≤ 600000) (hs : slots + 878 ≤ 7302250) (K : ∀ μ2, P μ2 → lj g p l e s m below meth c b (Int32.ofNat j) 1135 [] μ2 (cells + 4) (slots + 878)) : lj g p l e s m below meth c b (Int32.ofNat j) 769 [] μ cells slots := by
  obtain ⟨ν, hν⟩ := hP.1 μ h
  obtain ⟨r, μ1, μ2, e9, e10, h2⟩ := hP.2.2.2.1.2.2.2.2.2.2.2 (xs (j + 1)) μ h
  refine lj_x C (show decode code 769 = .ok (.aload_n 1, 1) by decide +kernel) (pc' := 770) rfl ?_
  refine lj_arg (k := 1) C hL (by omega) rfl (show decode code 770 = .ok (.aload_n 0, 1) by decide +kernel) (show decode code 771 = .ok (.iload_n 3, 1) by decide +kernel) (show decode code 772 = .ok (.iconst 1, 1) by decide +kernel) (show decode code 773 = .ok (.iadd, 1) by decide +kernel) (show decode code 774 = .ok (.iaload, 1) by decide +kernel) (pc' := 775) rfl ?_
  have c9 := ok_X9_kept (fr := 2000) (ν := ν) (by decide) (xs (j + 1)) μ hν e9
  refine lj_call (As := [.int (xs (j + 1))]) (ci := 9) (st := []) C okm_X9_kept (hm_tb_in (tb_5 (List.mem_of_getElem? (i := 6) rfl)) rfl) (show decode code 775 = .ok (.invokevirtual 110, 3) by decide +kernel) (pc' := 778) rfl rfl rfl (by decide) (la_o hν (by decide) rfl) rfl rfl (Nat.le_of_ble_eq_true rfl) (Nat.le_of_ble_eq_true rfl) (by omega) (by omega) c9 ?_
  obtain ⟨ν1, hν1⟩ : hm_LX μ1 := ⟨_, c9.1⟩
  refine lj_m C (show decode code 778 = .ok (.aload_n 2, 1) by decide +kernel) (pc' := 779) rfl ?_
  refine lj_arg (k := 1) C hL (by omega) rfl (show decode code 779 = .ok (.aload_n 0, 1) by decide +kernel) (show decode code 780 = .ok (.iload_n 3, 1) by decide +kernel) (show decode code 781 = .ok (.iconst 1, 1) by decide +kernel) (show decode code 782 = .ok (.iadd, 1) by decide +kernel) (show decode code 783 = .ok (.iaload, 1) by decide +kernel) (pc' := 784) rfl ?_
  have c10 := ok_X10_kept (fr := 2000) (ν := ν1) (by decide) (xs (j + 1)) μ1 hν1 e10
  refine lj_call (As := [.int (xs (j + 1))]) (ci := 10) (st := [.int r]) C okm_X10_kept (hm_tb_in (tb_8 (List.mem_of_getElem? (i := 43) rfl)) rfl) (show decode code 784 = .ok (.invokevirtual 113, 3) by decide +kernel) (pc' := 787) rfl rfl rfl (by decide) (la_o hν1 (by decide) rfl) rfl rfl (Nat.le_of_ble_eq_true rfl) (Nat.le_of_ble_eq_true rfl) (by omega) (by omega) c10 ?_
  refine lj_eq C (show decode code 787 = .ok (.if_icmp .eq 348, 3) by decide +kernel) (pc' := 1135) (by decide) ?_
  exact lj_w (by omega) (by omega) (K μ2 h2)
set_option maxRecDepth 100000 in
theorem lj_two {P : hm_M → Prop} (hP : pu_all P) (C : lw_C g p s m meth c b L xs) (hL : L ≤ 3072) {j : Nat} (hj : j + 5 < L) {μ : hm_M} (h : P μ) (hk : cells + 4 ≤ 600000) (hs : slots + 878 ≤ 7302250) (K : ∀ μ2, P μ2 → lj g p l e s m below meth c b (Int32.ofNat j) 1135 [] μ2 (cells + 4) (slots + 878)) : lj g p l e s m below meth c b (Int32.ofNat j) 792 [] μ cells slots := by
  obtain ⟨ν, hν⟩ := hP.1 μ h
  obtain ⟨r, μ1, μ2, e9, e10, h2⟩ := hP.2.2.2.2.1.1 (xs (j + 1)) μ h
  refine lj_x C (show decode code 792 = .ok (.aload_n 1, 1) by decide +kernel) (pc' := 793) rfl ?_
  refine lj_arg (k := 1) C hL (by omega) rfl (show decode code 793 = .ok (.aload_n 0, 1) by decide +kernel) (show decode code 794 = .ok (.iload_n 3, 1) by decide +kernel) (show decode code 795 = .ok (.iconst 1, 1) by decide +kernel) (show decode code 796 = .ok (.iadd, 1) by decide +kernel) (show decode code 797 = .ok (.iaload, 1) by decide +kernel) (pc' := 798) rfl ?_
  have c9 := ok_X9_two (fr := 2000) (ν := ν) (by decide) (xs (j + 1)) μ hν e9
  refine lj_call (As := [.int (xs (j + 1))]) (ci := 9) (st := []) C okm_X9_two (hm_tb_in (tb_5 (List.mem_of_getElem? (i := 15) rfl)) rfl) (show decode code 798 = .ok (.invokevirtual 114, 3) by decide +kernel) (pc' := 801) rfl rfl rfl (by decide) (la_o hν (by decide) rfl) rfl rfl (Nat.le_of_ble_eq_true rfl) (Nat.le_of_ble_eq_true rfl) (by omega) (by omega) c9 ?_
  obtain ⟨ν1, hν1⟩ : hm_LX μ1 := ⟨_, c9.1⟩
  refine lj_m C (show decode code 801 = .ok (.aload_n 2, 1) by decide +kernel) (pc' := 802) rfl ?_
  refine lj_arg (k := 1) C hL (by omega) rfl (show decode code 802 = .ok (.aload_n 0, 1) by decide +kernel) (show decode code 803 = .ok (.iload_n 3, 1) by decide +kernel) (show decode code 804 = .ok (.iconst 1, 1) by decide +kernel) (show decode code 805 = .ok (.iadd, 1) by decide +kernel) (show decode code 806 = .ok (.iaload, 1) by decide +kernel) (pc' := 807) rfl ?_
  have c10 := ok_X10_two (fr := 2000) (ν := ν1) (by decide) (xs (j + 1)) μ1 hν1 e10
  refine lj_call (As := [.int (xs (j + 1))]) (ci := 10) (st := [.int r]) C okm_X10_two (hm_tb_in (tb_8 (List.mem_of_getElem? (i := 58) rfl)) rfl) (show decode code 807 = .ok (.invokevirtual 117, 3) by decide +kernel) (pc' := 810) rfl rfl rfl (by decide) (la_o hν1 (by decide) rfl) rfl rfl (Nat.le_of_ble_eq_true rfl) (Nat.le_of_ble_eq_true rfl) (by omega) (by omega) c10 ?_
  refine lj_eq C (show decode code 810 = .ok (.if_icmp .eq 325, 3) by decide +kernel) (pc' := 1135) (by decide) ?_
  exact lj_w (by omega) (by omega) (K μ2 h2)
set_option maxRecDepth 100000 in
theorem lj_stays {P : hm_M → Prop} (hP : pu_all P) (C : lw_C g p s m meth c b L xs) (hL : L ≤ 3072) {j : Nat} (hj : j + 5 < L) {μ : hm_M} (h : P μ) (hk : cells + 4 ≤ 600000) (hs : slots + 878 ≤ 7302250) (K : ∀ μ2, P μ2 → lj g p l e s m below meth c b (Int32.ofNat j) 1135 [] μ2 (cells + 4) (slots + 878)) : lj g p l e s m below meth c b (Int32.ofNat j) 815 [] μ cells slots := by
  obtain ⟨ν, hν⟩ := hP.1 μ h
  obtain ⟨r, μ1, μ2, e9, e10, h2⟩ := hP.2.2.2.2.1.2.1  μ h
  refine lj_x C (show decode code 815 = .ok (.aload_n 1, 1) by decide +kernel) (pc' := 816) rfl ?_
  have c9 := ok_X9_stays (fr := 2000) (ν := ν) (by decide)  μ hν e9
  refine lj_call (As := []) (ci := 9) (st := []) C okm_X9_stays (hm_tb_in (tb_5 (List.mem_of_getElem? (i := 28) rfl)) rfl) (show decode code 816 = .ok (.invokevirtual 118, 3) by decide +kernel) (pc' := 819) rfl rfl rfl (by decide) (la_o hν (by decide) rfl) rfl rfl (Nat.le_of_ble_eq_true rfl) (Nat.le_of_ble_eq_true rfl) (by omega) (by omega) c9 ?_
  obtain ⟨ν1, hν1⟩ : hm_LX μ1 := ⟨_, c9.1⟩
  refine lj_m C (show decode code 819 = .ok (.aload_n 2, 1) by decide +kernel) (pc' := 820) rfl ?_
  have c10 := ok_X10_stays (fr := 2000) (ν := ν1) (by decide)  μ1 hν1 e10
  refine lj_call (As := []) (ci := 10) (st := [.int r]) C okm_X10_stays (hm_tb_in (tb_8 (List.mem_of_getElem? (i := 62) rfl)) rfl) (show decode code 820 = .ok (.invokevirtual 121, 3) by decide +kernel) (pc' := 823) rfl rfl rfl (by decide) (la_o hν1 (by decide) rfl) rfl rfl (Nat.le_of_ble_eq_true rfl) (Nat.le_of_ble_eq_true rfl) (by omega) (by omega) c10 ?_
  refine lj_eq C (show decode code 823 = .ok (.if_icmp .eq 312, 3) by decide +kernel) (pc' := 1135) (by decide) ?_
  exact lj_w (by omega) (by omega) (K μ2 h2)
set_option maxRecDepth 100000 in
theorem lj_seen {P : hm_M → Prop} (hP : pu_all P) (C : lw_C g p s m meth c b L xs) (hL : L ≤ 3072) {j : Nat} (hj : j + 5 < L) {μ : hm_M} (h : P μ) (hk : cells + 4 ≤ 600000) (hs : slots + 878 ≤ 7302250) (K : ∀ μ2, P μ2 → lj g p l e s m below meth c b (Int32.ofNat j) 1135 [] μ2 (cells + 4) (slots + 878)) : lj g p l e s m below meth c b (Int32.ofNat j) 828 [] μ cells slots := by
  obtain ⟨ν, hν⟩ := hP.1 μ h
  obtain ⟨r, μ1, μ2, e9, e10, h2⟩ := hP.2.2.2.2.1.2.2.1 (xs (j + 1)) (xs (j + 2)) (xs (j + 3)) μ h
  refine lj_x C (show decode code 828 = .ok (.aload_n 1, 1) by decide +kernel) (pc' := 829) rfl ?_
  refine lj_arg (k := 1) C hL (by omega) rfl (show decode code 829 = .ok (.aload_n 0, 1) by decide +kernel) (show decode code 830 = .ok (.iload_n 3, 1) by decide +kernel) (show decode code 831 = .ok (.iconst 1, 1) by decide +kernel) (show decode code 832 = .ok (.iadd, 1) by decide +kernel) (show decode code 833 = .ok (.iaload, 1) by decide +kernel) (pc' := 834) rfl ?_
  refine lj_arg (k := 2) C hL (by omega) rfl (show decode code 834 = .ok (.aload_n 0, 1) by decide +kernel) (show decode code 835 = .ok (.iload_n 3, 1) by decide +kernel) (show decode code 836 = .ok (.iconst 2, 1) by decide +kernel) (show decode code 837 = .ok (.iadd, 1) by decide +kernel) (show decode code 838 = .ok (.iaload, 1) by decide +kernel) (pc' := 839) rfl ?_
  refine lj_arg (k := 3) C hL (by omega) rfl (show decode code 839 = .ok (.aload_n 0, 1) by decide +kernel) (show decode code 840 = .ok (.iload_n 3, 1) by decide +kernel) (show decode code 841 = .ok (.iconst 3, 1) by decide +kernel) (show decode code 842 = .ok (.iadd, 1) by decide +kernel) (show decode code 843 = .ok (.iaload, 1) by decide +kernel) (pc' := 844) rfl ?_
  have c9 := ok_X9_seen (fr := 2000) (ν := ν) (by decide) (xs (j + 1)) (xs (j + 2)) (xs (j + 3)) μ hν e9
  refine lj_call (As := [.int (xs (j + 1)), .int (xs (j + 2)), .int (xs (j + 3))]) (ci := 9) (st := []) C okm_X9_seen (hm_tb_in (tb_5 (List.mem_of_getElem? (i := 37) rfl)) rfl) (show decode code 844 = .ok (.invokevirtual 122, 3) by decide +kernel) (pc' := 847) rfl rfl rfl (by decide) (la_o hν (by decide) rfl) rfl rfl (Nat.le_of_ble_eq_true rfl) (Nat.le_of_ble_eq_true rfl) (by omega) (by omega) c9 ?_
  obtain ⟨ν1, hν1⟩ : hm_LX μ1 := ⟨_, c9.1⟩
  refine lj_m C (show decode code 847 = .ok (.aload_n 2, 1) by decide +kernel) (pc' := 848) rfl ?_
  refine lj_arg (k := 1) C hL (by omega) rfl (show decode code 848 = .ok (.aload_n 0, 1) by decide +kernel) (show decode code 849 = .ok (.iload_n 3, 1) by decide +kernel) (show decode code 850 = .ok (.iconst 1, 1) by decide +kernel) (show decode code 851 = .ok (.iadd, 1) by decide +kernel) (show decode code 852 = .ok (.iaload, 1) by decide +kernel) (pc' := 853) rfl ?_
  refine lj_arg (k := 2) C hL (by omega) rfl (show decode code 853 = .ok (.aload_n 0, 1) by decide +kernel) (show decode code 854 = .ok (.iload_n 3, 1) by decide +kernel) (show decode code 855 = .ok (.iconst 2, 1) by decide +kernel) (show decode code 856 = .ok (.iadd, 1) by decide +kernel) (show decode code 857 = .ok (.iaload, 1) by decide +kernel) (pc' := 858) rfl ?_
  refine lj_arg (k := 3) C hL (by omega) rfl (show decode code 858 = .ok (.aload_n 0, 1) by decide +kernel) (show decode code 859 = .ok (.iload_n 3, 1) by decide +kernel) (show decode code 860 = .ok (.iconst 3, 1) by decide +kernel) (show decode code 861 = .ok (.iadd, 1) by decide +kernel) (show decode code 862 = .ok (.iaload, 1) by decide +kernel) (pc' := 863) rfl ?_
  have c10 := ok_X10_seen (fr := 2000) (ν := ν1) (by decide) (xs (j + 1)) (xs (j + 2)) (xs (j + 3)) μ1 hν1 e10
  refine lj_call (As := [.int (xs (j + 1)), .int (xs (j + 2)), .int (xs (j + 3))]) (ci := 10) (st := [.int r]) C okm_X10_seen (hm_tb_in (tb_8 (List.mem_of_getElem? (i := 27) rfl)) rfl) (show decode code 863 = .ok (.invokevirtual 125, 3) by decide +kernel) (pc' := 866) rfl rfl rfl (by decide) (la_o hν1 (by decide) rfl) rfl rfl (Nat.le_of_ble_eq_true rfl) (Nat.le_of_ble_eq_true rfl) (by omega) (by omega) c10 ?_
  refine lj_eq C (show decode code 866 = .ok (.if_icmp .eq 269, 3) by decide +kernel) (pc' := 1135) (by decide) ?_
  exact lj_w (by omega) (by omega) (K μ2 h2)
set_option maxRecDepth 100000 in
theorem lj_forget {P : hm_M → Prop} (hP : pu_all P) (C : lw_C g p s m meth c b L xs) (hL : L ≤ 3072) {j : Nat} (hj : j + 5 < L) {μ : hm_M} (h : P μ) (hk : cells + 4 ≤ 600000) (hs : slots + 878 ≤ 7302250) (K : ∀ μ2, P μ2 → lj g p l e s m below meth c b (Int32.ofNat j) 1135 [] μ2 (cells + 4) (slots + 878)) : lj g p l e s m below meth c b (Int32.ofNat j) 871 [] μ cells slots := by
  obtain ⟨ν, hν⟩ := hP.1 μ h
  obtain ⟨r, μ1, μ2, e9, e10, h2⟩ := hP.2.2.2.2.1.2.2.2.1  μ h
  refine lj_x C (show decode code 871 = .ok (.aload_n 1, 1) by decide +kernel) (pc' := 872) rfl ?_
  have c9 := ok_X9_forget (fr := 2000) (ν := ν) (by decide)  μ hν e9
  refine lj_call (As := []) (ci := 9) (st := []) C okm_X9_forget (hm_tb_in (tb_5 (List.mem_of_getElem? (i := 47) rfl)) rfl) (show decode code 872 = .ok (.invokevirtual 126, 3) by decide +kernel) (pc' := 875) rfl rfl rfl (by decide) (la_o hν (by decide) rfl) rfl rfl (Nat.le_of_ble_eq_true rfl) (Nat.le_of_ble_eq_true rfl) (by omega) (by omega) c9 ?_
  obtain ⟨ν1, hν1⟩ : hm_LX μ1 := ⟨_, c9.1⟩
  refine lj_m C (show decode code 875 = .ok (.aload_n 2, 1) by decide +kernel) (pc' := 876) rfl ?_
  have c10 := ok_X10_forget (fr := 2000) (ν := ν1) (by decide)  μ1 hν1 e10
  refine lj_call (As := []) (ci := 10) (st := [.int r]) C okm_X10_forget (hm_tb_in (tb_8 (List.mem_of_getElem? (i := 31) rfl)) rfl) (show decode code 876 = .ok (.invokevirtual 129, 3) by decide +kernel) (pc' := 879) rfl rfl rfl (by decide) (la_o hν1 (by decide) rfl) rfl rfl (Nat.le_of_ble_eq_true rfl) (Nat.le_of_ble_eq_true rfl) (by omega) (by omega) c10 ?_
  refine lj_eq C (show decode code 879 = .ok (.if_icmp .eq 256, 3) by decide +kernel) (pc' := 1135) (by decide) ?_
  exact lj_w (by omega) (by omega) (K μ2 h2)
set_option maxRecDepth 100000 in
theorem lj_fits {P : hm_M → Prop} (hP : pu_all P) (C : lw_C g p s m meth c b L xs) (hL : L ≤ 3072) {j : Nat} (hj : j + 5 < L) {μ : hm_M} (h : P μ) (hk : cells + 4 ≤ 600000) (hs : slots + 878 ≤ 7302250) (K : ∀ μ2, P μ2 → lj g p l e s m below meth c b (Int32.ofNat j) 1135 [] μ2 (cells + 4) (slots + 878)) : lj g p l e s m below meth c b (Int32.ofNat j) 884 [] μ cells slots := by
  obtain ⟨ν, hν⟩ := hP.1 μ h
  obtain ⟨r, μ1, μ2, e9, e10, h2⟩ := hP.2.2.2.2.1.2.2.2.2.1 (xs (j + 1)) μ h
  refine lj_x C (show decode code 884 = .ok (.aload_n 1, 1) by decide +kernel) (pc' := 885) rfl ?_
  refine lj_arg (k := 1) C hL (by omega) rfl (show decode code 885 = .ok (.aload_n 0, 1) by decide +kernel) (show decode code 886 = .ok (.iload_n 3, 1) by decide +kernel) (show decode code 887 = .ok (.iconst 1, 1) by decide +kernel) (show decode code 888 = .ok (.iadd, 1) by decide +kernel) (show decode code 889 = .ok (.iaload, 1) by decide +kernel) (pc' := 890) rfl ?_
  have c9 := ok_X9_fits (fr := 2000) (ν := ν) (by decide) (xs (j + 1)) μ hν e9
  refine lj_call (As := [.int (xs (j + 1))]) (ci := 9) (st := []) C okm_X9_fits (hm_tb_in (tb_5 (List.mem_of_getElem? (i := 51) rfl)) rfl) (show decode code 890 = .ok (.invokevirtual 130, 3) by decide +kernel) (pc' := 893) rfl rfl rfl (by decide) (la_o hν (by decide) rfl) rfl rfl (Nat.le_of_ble_eq_true rfl) (Nat.le_of_ble_eq_true rfl) (by omega) (by omega) c9 ?_
  obtain ⟨ν1, hν1⟩ : hm_LX μ1 := ⟨_, c9.1⟩
  refine lj_m C (show decode code 893 = .ok (.aload_n 2, 1) by decide +kernel) (pc' := 894) rfl ?_
  refine lj_arg (k := 1) C hL (by omega) rfl (show decode code 894 = .ok (.aload_n 0, 1) by decide +kernel) (show decode code 895 = .ok (.iload_n 3, 1) by decide +kernel) (show decode code 896 = .ok (.iconst 1, 1) by decide +kernel) (show decode code 897 = .ok (.iadd, 1) by decide +kernel) (show decode code 898 = .ok (.iaload, 1) by decide +kernel) (pc' := 899) rfl ?_
  have c10 := ok_X10_fits (fr := 2000) (ν := ν1) (by decide) (xs (j + 1)) μ1 hν1 e10
  refine lj_call (As := [.int (xs (j + 1))]) (ci := 10) (st := [.int r]) C okm_X10_fits (hm_tb_in (tb_8 (List.mem_of_getElem? (i := 35) rfl)) rfl) (show decode code 899 = .ok (.invokevirtual 133, 3) by decide +kernel) (pc' := 902) rfl rfl rfl (by decide) (la_o hν1 (by decide) rfl) rfl rfl (Nat.le_of_ble_eq_true rfl) (Nat.le_of_ble_eq_true rfl) (by omega) (by omega) c10 ?_
  refine lj_eq C (show decode code 902 = .ok (.if_icmp .eq 233, 3) by decide +kernel) (pc' := 1135) (by decide) ?_
  exact lj_w (by omega) (by omega) (K μ2 h2)
set_option maxRecDepth 100000 in
theorem lj_ask {P : hm_M → Prop} (hP : pu_all P) (C : lw_C g p s m meth c b L xs) (hL : L ≤ 3072) {j : Nat} (hj : j + 5 < L) {μ : hm_M} (h : P μ) (hk : cells + 4 ≤ 600000) (hs : slots + 878 ≤ 7302250) (K : ∀ μ2, P μ2 → lj g p l e s m below meth c b (Int32.ofNat j) 1135 [] μ2 (cells + 4) (slots + 878)) : lj g p l e s m below meth c b (Int32.ofNat j) 907 [] μ cells slots := by
  obtain ⟨ν, hν⟩ := hP.1 μ h
  obtain ⟨r, μ1, μ2, e9, e10, h2⟩ := hP.2.2.2.2.1.2.2.2.2.2.1 (xs (j + 1)) μ h
  refine lj_x C (show decode code 907 = .ok (.aload_n 1, 1) by decide +kernel) (pc' := 908) rfl ?_
  refine lj_arg (k := 1) C hL (by omega) rfl (show decode code 908 = .ok (.aload_n 0, 1) by decide +kernel) (show decode code 909 = .ok (.iload_n 3, 1) by decide +kernel) (show decode code 910 = .ok (.iconst 1, 1) by decide +kernel) (show decode code 911 = .ok (.iadd, 1) by decide +kernel) (show decode code 912 = .ok (.iaload, 1) by decide +kernel) (pc' := 913) rfl ?_
  have c9 := ok_X9_ask (fr := 2000) (ν := ν) (by decide) (xs (j + 1)) μ hν e9
  refine lj_call (As := [.int (xs (j + 1))]) (ci := 9) (st := []) C okm_X9_ask (hm_tb_in (tb_5 (List.mem_of_getElem? (i := 71) rfl)) rfl) (show decode code 913 = .ok (.invokevirtual 134, 3) by decide +kernel) (pc' := 916) rfl rfl rfl (by decide) (la_o hν (by decide) rfl) rfl rfl (Nat.le_of_ble_eq_true rfl) (Nat.le_of_ble_eq_true rfl) (by omega) (by omega) c9 ?_
  obtain ⟨ν1, hν1⟩ : hm_LX μ1 := ⟨_, c9.1⟩
  refine lj_m C (show decode code 916 = .ok (.aload_n 2, 1) by decide +kernel) (pc' := 917) rfl ?_
  refine lj_arg (k := 1) C hL (by omega) rfl (show decode code 917 = .ok (.aload_n 0, 1) by decide +kernel) (show decode code 918 = .ok (.iload_n 3, 1) by decide +kernel) (show decode code 919 = .ok (.iconst 1, 1) by decide +kernel) (show decode code 920 = .ok (.iadd, 1) by decide +kernel) (show decode code 921 = .ok (.iaload, 1) by decide +kernel) (pc' := 922) rfl ?_
  have c10 := ok_X10_ask (fr := 2000) (ν := ν1) (by decide) (xs (j + 1)) μ1 hν1 e10
  refine lj_call (As := [.int (xs (j + 1))]) (ci := 10) (st := [.int r]) C okm_X10_ask (hm_tb_in (tb_8 (List.mem_of_getElem? (i := 39) rfl)) rfl) (show decode code 922 = .ok (.invokevirtual 137, 3) by decide +kernel) (pc' := 925) rfl rfl rfl (by decide) (la_o hν1 (by decide) rfl) rfl rfl (Nat.le_of_ble_eq_true rfl) (Nat.le_of_ble_eq_true rfl) (by omega) (by omega) c10 ?_
  refine lj_eq C (show decode code 925 = .ok (.if_icmp .eq 210, 3) by decide +kernel) (pc' := 1135) (by decide) ?_
  exact lj_w (by omega) (by omega) (K μ2 h2)
set_option maxRecDepth 100000 in
theorem lj_few {P : hm_M → Prop} (hP : pu_all P) (C : lw_C g p s m meth c b L xs) (hL : L ≤ 3072) {j : Nat} (hj : j + 5 < L) {μ : hm_M} (h : P μ) (hk : cells + 4 ≤ 600000) (hs : slots + 878 ≤ 7302250) (K : ∀ μ2, P μ2 → lj g p l e s m below meth c b (Int32.ofNat j) 1135 [] μ2 (cells + 4) (slots + 878)) : lj g p l e s m below meth c b (Int32.ofNat j) 930 [] μ cells slots := by
  obtain ⟨ν, hν⟩ := hP.1 μ h
  obtain ⟨r, μ1, μ2, e9, e10, h2⟩ := hP.2.2.2.2.1.2.2.2.2.2.2.1 (xs (j + 1)) (xs (j + 2)) μ h
  refine lj_x C (show decode code 930 = .ok (.aload_n 1, 1) by decide +kernel) (pc' := 931) rfl ?_
  refine lj_arg (k := 1) C hL (by omega) rfl (show decode code 931 = .ok (.aload_n 0, 1) by decide +kernel) (show decode code 932 = .ok (.iload_n 3, 1) by decide +kernel) (show decode code 933 = .ok (.iconst 1, 1) by decide +kernel) (show decode code 934 = .ok (.iadd, 1) by decide +kernel) (show decode code 935 = .ok (.iaload, 1) by decide +kernel) (pc' := 936) rfl ?_
  refine lj_arg (k := 2) C hL (by omega) rfl (show decode code 936 = .ok (.aload_n 0, 1) by decide +kernel) (show decode code 937 = .ok (.iload_n 3, 1) by decide +kernel) (show decode code 938 = .ok (.iconst 2, 1) by decide +kernel) (show decode code 939 = .ok (.iadd, 1) by decide +kernel) (show decode code 940 = .ok (.iaload, 1) by decide +kernel) (pc' := 941) rfl ?_
  have c9 := ok_X9_few (fr := 2000) (ν := ν) (by decide) (xs (j + 1)) (xs (j + 2)) μ hν e9
  refine lj_call (As := [.int (xs (j + 1)), .int (xs (j + 2))]) (ci := 9) (st := []) C okm_X9_few (hm_tb_in (tb_5 (List.mem_of_getElem? (i := 89) rfl)) rfl) (show decode code 941 = .ok (.invokevirtual 138, 3) by decide +kernel) (pc' := 944) rfl rfl rfl (by decide) (la_o hν (by decide) rfl) rfl rfl (Nat.le_of_ble_eq_true rfl) (Nat.le_of_ble_eq_true rfl) (by omega) (by omega) c9 ?_
  obtain ⟨ν1, hν1⟩ : hm_LX μ1 := ⟨_, c9.1⟩
  refine lj_m C (show decode code 944 = .ok (.aload_n 2, 1) by decide +kernel) (pc' := 945) rfl ?_
  refine lj_arg (k := 1) C hL (by omega) rfl (show decode code 945 = .ok (.aload_n 0, 1) by decide +kernel) (show decode code 946 = .ok (.iload_n 3, 1) by decide +kernel) (show decode code 947 = .ok (.iconst 1, 1) by decide +kernel) (show decode code 948 = .ok (.iadd, 1) by decide +kernel) (show decode code 949 = .ok (.iaload, 1) by decide +kernel) (pc' := 950) rfl ?_
  refine lj_arg (k := 2) C hL (by omega) rfl (show decode code 950 = .ok (.aload_n 0, 1) by decide +kernel) (show decode code 951 = .ok (.iload_n 3, 1) by decide +kernel) (show decode code 952 = .ok (.iconst 2, 1) by decide +kernel) (show decode code 953 = .ok (.iadd, 1) by decide +kernel) (show decode code 954 = .ok (.iaload, 1) by decide +kernel) (pc' := 955) rfl ?_
  have c10 := ok_X10_few (fr := 2000) (ν := ν1) (by decide) (xs (j + 1)) (xs (j + 2)) μ1 hν1 e10
  refine lj_call (As := [.int (xs (j + 1)), .int (xs (j + 2))]) (ci := 10) (st := [.long r]) C okm_X10_few (hm_tb_in (tb_8 (List.mem_of_getElem? (i := 70) rfl)) rfl) (show decode code 955 = .ok (.invokevirtual 142, 3) by decide +kernel) (pc' := 958) rfl rfl rfl (by decide) (la_o hν1 (by decide) rfl) rfl rfl (Nat.le_of_ble_eq_true rfl) (Nat.le_of_ble_eq_true rfl) (by omega) (by omega) c10 ?_
  refine lj_eqJ C (show decode code 958 = .ok (.lcmp, 1) by decide +kernel) (show decode code 959 = .ok (.ifCond .eq 176, 3) by decide +kernel) (pc' := 1135) (by decide) ?_
  exact lj_w (by omega) (by omega) (K μ2 h2)
set_option maxRecDepth 100000 in
theorem lj_compare {P : hm_M → Prop} (hP : pu_all P) (C : lw_C g p s m meth c b L xs) (hL : L ≤ 3072) {j : Nat} (hj : j + 5 < L) {μ : hm_M} (h : P μ) (hk : cells + 4 ≤ 600000) (hs : slots + 878 ≤ 7302250) (K : ∀ μ2, P μ2 → lj g p l e s m below meth c b (Int32.ofNat j) 1135 [] μ2 (cells + 4) (slots + 878)) : lj g p l e s m below meth c b (Int32.ofNat j) 964 [] μ cells slots := by
  obtain ⟨ν, hν⟩ := hP.1 μ h
  obtain ⟨r, μ1, μ2, e9, e10, h2⟩ := hP.2.2.2.2.1.2.2.2.2.2.2.2 (xs (j + 1)) μ h
  refine lj_x C (show decode code 964 = .ok (.aload_n 1, 1) by decide +kernel) (pc' := 965) rfl ?_
  refine lj_arg (k := 1) C hL (by omega) rfl (show decode code 965 = .ok (.aload_n 0, 1) by decide +kernel) (show decode code 966 = .ok (.iload_n 3, 1) by decide +kernel) (show decode code 967 = .ok (.iconst 1, 1) by decide +kernel) (show decode code 968 = .ok (.iadd, 1) by decide +kernel) (show decode code 969 = .ok (.iaload, 1) by decide +kernel) (pc' := 970) rfl ?_
  have c9 := ok_X9_compare (fr := 2000) (ν := ν) (by decide) (xs (j + 1)) μ hν e9
  refine lj_call (As := [.int (xs (j + 1))]) (ci := 9) (st := []) C okm_X9_compare (hm_tb_in (tb_5 (List.mem_of_getElem? (i := 99) rfl)) rfl) (show decode code 970 = .ok (.invokevirtual 143, 3) by decide +kernel) (pc' := 973) rfl rfl rfl (by decide) (la_o hν (by decide) rfl) rfl rfl (Nat.le_of_ble_eq_true rfl) (Nat.le_of_ble_eq_true rfl) (by omega) (by omega) c9 ?_
  obtain ⟨ν1, hν1⟩ : hm_LX μ1 := ⟨_, c9.1⟩
  refine lj_m C (show decode code 973 = .ok (.aload_n 2, 1) by decide +kernel) (pc' := 974) rfl ?_
  refine lj_arg (k := 1) C hL (by omega) rfl (show decode code 974 = .ok (.aload_n 0, 1) by decide +kernel) (show decode code 975 = .ok (.iload_n 3, 1) by decide +kernel) (show decode code 976 = .ok (.iconst 1, 1) by decide +kernel) (show decode code 977 = .ok (.iadd, 1) by decide +kernel) (show decode code 978 = .ok (.iaload, 1) by decide +kernel) (pc' := 979) rfl ?_
  have c10 := ok_X10_compare (fr := 2000) (ν := ν1) (by decide) (xs (j + 1)) μ1 hν1 e10
  refine lj_call (As := [.int (xs (j + 1))]) (ci := 10) (st := [.int r]) C okm_X10_compare (hm_tb_in (tb_7 (List.mem_of_getElem? (i := 238) rfl)) rfl) (show decode code 979 = .ok (.invokevirtual 146, 3) by decide +kernel) (pc' := 982) rfl rfl rfl (by decide) (la_o hν1 (by decide) rfl) rfl rfl (Nat.le_of_ble_eq_true rfl) (Nat.le_of_ble_eq_true rfl) (by omega) (by omega) c10 ?_
  refine lj_eq C (show decode code 982 = .ok (.if_icmp .eq 153, 3) by decide +kernel) (pc' := 1135) (by decide) ?_
  exact lj_w (by omega) (by omega) (K μ2 h2)
set_option maxRecDepth 100000 in
theorem lj_days {P : hm_M → Prop} (hP : pu_all P) (C : lw_C g p s m meth c b L xs) (hL : L ≤ 3072) {j : Nat} (hj : j + 5 < L) {μ : hm_M} (h : P μ) (hk : cells + 4 ≤ 600000) (hs : slots + 878 ≤ 7302250) (K : ∀ μ2, P μ2 → lj g p l e s m below meth c b (Int32.ofNat j) 1135 [] μ2 (cells + 4) (slots + 878)) : lj g p l e s m below meth c b (Int32.ofNat j) 987 [] μ cells slots := by
  obtain ⟨ν, hν⟩ := hP.1 μ h
  obtain ⟨r, μ1, μ2, e9, e10, h2⟩ := hP.2.2.2.2.2.1 (xs (j + 1)) (xs (j + 2)) μ h
  refine lj_x C (show decode code 987 = .ok (.aload_n 1, 1) by decide +kernel) (pc' := 988) rfl ?_
  refine lj_arg (k := 1) C hL (by omega) rfl (show decode code 988 = .ok (.aload_n 0, 1) by decide +kernel) (show decode code 989 = .ok (.iload_n 3, 1) by decide +kernel) (show decode code 990 = .ok (.iconst 1, 1) by decide +kernel) (show decode code 991 = .ok (.iadd, 1) by decide +kernel) (show decode code 992 = .ok (.iaload, 1) by decide +kernel) (pc' := 993) rfl ?_
  refine lj_arg (k := 2) C hL (by omega) rfl (show decode code 993 = .ok (.aload_n 0, 1) by decide +kernel) (show decode code 994 = .ok (.iload_n 3, 1) by decide +kernel) (show decode code 995 = .ok (.iconst 2, 1) by decide +kernel) (show decode code 996 = .ok (.iadd, 1) by decide +kernel) (show decode code 997 = .ok (.iaload, 1) by decide +kernel) (pc' := 998) rfl ?_
  have c9 := ok_X9_days (fr := 2000) (ν := ν) (by decide) (xs (j + 1)) (xs (j + 2)) μ hν e9
  refine lj_call (As := [.int (xs (j + 1)), .int (xs (j + 2))]) (ci := 9) (st := []) C okm_X9_days (hm_tb_in (tb_5 (List.mem_of_getElem? (i := 103) rfl)) rfl) (show decode code 998 = .ok (.invokevirtual 147, 3) by decide +kernel) (pc' := 1001) rfl rfl rfl (by decide) (la_o hν (by decide) rfl) rfl rfl (Nat.le_of_ble_eq_true rfl) (Nat.le_of_ble_eq_true rfl) (by omega) (by omega) c9 ?_
  obtain ⟨ν1, hν1⟩ : hm_LX μ1 := ⟨_, c9.1⟩
  refine lj_m C (show decode code 1001 = .ok (.aload_n 2, 1) by decide +kernel) (pc' := 1002) rfl ?_
  refine lj_arg (k := 1) C hL (by omega) rfl (show decode code 1002 = .ok (.aload_n 0, 1) by decide +kernel) (show decode code 1003 = .ok (.iload_n 3, 1) by decide +kernel) (show decode code 1004 = .ok (.iconst 1, 1) by decide +kernel) (show decode code 1005 = .ok (.iadd, 1) by decide +kernel) (show decode code 1006 = .ok (.iaload, 1) by decide +kernel) (pc' := 1007) rfl ?_
  refine lj_arg (k := 2) C hL (by omega) rfl (show decode code 1007 = .ok (.aload_n 0, 1) by decide +kernel) (show decode code 1008 = .ok (.iload_n 3, 1) by decide +kernel) (show decode code 1009 = .ok (.iconst 2, 1) by decide +kernel) (show decode code 1010 = .ok (.iadd, 1) by decide +kernel) (show decode code 1011 = .ok (.iaload, 1) by decide +kernel) (pc' := 1012) rfl ?_
  have c10 := ok_X10_days (fr := 2000) (ν := ν1) (by decide) (xs (j + 1)) (xs (j + 2)) μ1 hν1 e10
  refine lj_call (As := [.int (xs (j + 1)), .int (xs (j + 2))]) (ci := 10) (st := [.int r]) C okm_X10_days (hm_tb_in (tb_8 (List.mem_of_getElem? (i := 109) rfl)) rfl) (show decode code 1012 = .ok (.invokevirtual 150, 3) by decide +kernel) (pc' := 1015) rfl rfl rfl (by decide) (la_o hν1 (by decide) rfl) rfl rfl (Nat.le_of_ble_eq_true rfl) (Nat.le_of_ble_eq_true rfl) (by omega) (by omega) c10 ?_
  refine lj_eq C (show decode code 1015 = .ok (.if_icmp .eq 120, 3) by decide +kernel) (pc' := 1135) (by decide) ?_
  exact lj_w (by omega) (by omega) (K μ2 h2)
set_option maxRecDepth 100000 in
theorem lj_drawn {P : hm_M → Prop} (hP : pu_all P) (C : lw_C g p s m meth c b L xs) (hL : L ≤ 3072) {j : Nat} (hj : j + 5 < L) {μ : hm_M} (h : P μ) (hk : cells + 4 ≤ 600000) (hs : slots + 878 ≤ 7302250) (K : ∀ μ2, P μ2 → lj g p l e s m below meth c b (Int32.ofNat j) 1135 [] μ2 (cells + 4) (slots + 878)) : lj g p l e s m below meth c b (Int32.ofNat j) 1020 [] μ cells slots := by
  obtain ⟨ν, hν⟩ := hP.1 μ h
  obtain ⟨r, e9, e10⟩ := hP.2.2.2.2.2.2.1 (xs (j + 1)) (xs (j + 2)) μ h
  refine lj_x C (show decode code 1020 = .ok (.aload_n 1, 1) by decide +kernel) (pc' := 1021) rfl ?_
  refine lj_arg (k := 1) C hL (by omega) rfl (show decode code 1021 = .ok (.aload_n 0, 1) by decide +kernel) (show decode code 1022 = .ok (.iload_n 3, 1) by decide +kernel) (show decode code 1023 = .ok (.iconst 1, 1) by decide +kernel) (show decode code 1024 = .ok (.iadd, 1) by decide +kernel) (show decode code 1025 = .ok (.iaload, 1) by decide +kernel) (pc' := 1026) rfl ?_
  refine lj_arg (k := 2) C hL (by omega) rfl (show decode code 1026 = .ok (.aload_n 0, 1) by decide +kernel) (show decode code 1027 = .ok (.iload_n 3, 1) by decide +kernel) (show decode code 1028 = .ok (.iconst 2, 1) by decide +kernel) (show decode code 1029 = .ok (.iadd, 1) by decide +kernel) (show decode code 1030 = .ok (.iaload, 1) by decide +kernel) (pc' := 1031) rfl ?_
  have c9 := ok_X9_drawn (fr := 2000) (ν := ν) (by decide) (xs (j + 1)) (xs (j + 2)) μ hν e9
  refine lj_call (As := [.int (xs (j + 1)), .int (xs (j + 2))]) (ci := 9) (st := []) C okm_X9_drawn (hm_tb_in (tb_5 (List.mem_of_getElem? (i := 117) rfl)) rfl) (show decode code 1031 = .ok (.invokevirtual 151, 3) by decide +kernel) (pc' := 1034) rfl rfl rfl (by decide) (la_o hν (by decide) rfl) rfl rfl (Nat.le_of_ble_eq_true rfl) (Nat.le_of_ble_eq_true rfl) (by omega) (by omega) c9 ?_
  obtain ⟨ν1, hν1⟩ : hm_LX μ := ⟨_, c9.1⟩
  refine lj_m C (show decode code 1034 = .ok (.aload_n 2, 1) by decide +kernel) (pc' := 1035) rfl ?_
  refine lj_arg (k := 1) C hL (by omega) rfl (show decode code 1035 = .ok (.aload_n 0, 1) by decide +kernel) (show decode code 1036 = .ok (.iload_n 3, 1) by decide +kernel) (show decode code 1037 = .ok (.iconst 1, 1) by decide +kernel) (show decode code 1038 = .ok (.iadd, 1) by decide +kernel) (show decode code 1039 = .ok (.iaload, 1) by decide +kernel) (pc' := 1040) rfl ?_
  refine lj_arg (k := 2) C hL (by omega) rfl (show decode code 1040 = .ok (.aload_n 0, 1) by decide +kernel) (show decode code 1041 = .ok (.iload_n 3, 1) by decide +kernel) (show decode code 1042 = .ok (.iconst 2, 1) by decide +kernel) (show decode code 1043 = .ok (.iadd, 1) by decide +kernel) (show decode code 1044 = .ok (.iaload, 1) by decide +kernel) (pc' := 1045) rfl ?_
  have c10 := ok_X10_drawn (fr := 2000) (ν := ν1) (by decide) (xs (j + 1)) (xs (j + 2)) μ hν1 e10
  refine lj_call (As := [.int (xs (j + 1)), .int (xs (j + 2))]) (ci := 10) (st := [.int r]) C okm_X10_drawn (hm_tb_in (tb_8 (List.mem_of_getElem? (i := 124) rfl)) rfl) (show decode code 1045 = .ok (.invokevirtual 154, 3) by decide +kernel) (pc' := 1048) rfl rfl rfl (by decide) (la_o hν1 (by decide) rfl) rfl rfl (Nat.le_of_ble_eq_true rfl) (Nat.le_of_ble_eq_true rfl) (by omega) (by omega) c10 ?_
  refine lj_eq C (show decode code 1048 = .ok (.if_icmp .eq 87, 3) by decide +kernel) (pc' := 1135) (by decide) ?_
  exact lj_w (by omega) (by omega) (K μ h)
set_option maxRecDepth 100000 in
theorem lj_image {P : hm_M → Prop} (hP : pu_all P) (C : lw_C g p s m meth c b L xs) (hL : L ≤ 3072) {j : Nat} (hj : j + 5 < L) {μ : hm_M} (h : P μ) (hk : cells + 4 ≤ 600000) (hs : slots + 878 ≤ 7302250) (K : ∀ μ2, P μ2 → lj g p l e s m below meth c b (Int32.ofNat j) 1135 [] μ2 (cells + 4) (slots + 878)) : lj g p l e s m below meth c b (Int32.ofNat j) 1053 [] μ cells slots := by
  obtain ⟨ν, hν⟩ := hP.1 μ h
  obtain ⟨r, μ1, μ2, e9, e10, h2⟩ := hP.2.2.2.2.2.2.2.1 (xs (j + 1)) μ h
  refine lj_x C (show decode code 1053 = .ok (.aload_n 1, 1) by decide +kernel) (pc' := 1054) rfl ?_
  refine lj_arg (k := 1) C hL (by omega) rfl (show decode code 1054 = .ok (.aload_n 0, 1) by decide +kernel) (show decode code 1055 = .ok (.iload_n 3, 1) by decide +kernel) (show decode code 1056 = .ok (.iconst 1, 1) by decide +kernel) (show decode code 1057 = .ok (.iadd, 1) by decide +kernel) (show decode code 1058 = .ok (.iaload, 1) by decide +kernel) (pc' := 1059) rfl ?_
  have c9 := ok_X9_image (fr := 2000) (ν := ν) (by decide) (xs (j + 1)) μ hν e9
  refine lj_call (As := [.int (xs (j + 1))]) (ci := 9) (st := []) C okm_X9_image (hm_tb_in (tb_5 (List.mem_of_getElem? (i := 121) rfl)) rfl) (show decode code 1059 = .ok (.invokevirtual 155, 3) by decide +kernel) (pc' := 1062) rfl rfl rfl (by decide) (la_o hν (by decide) rfl) rfl rfl (Nat.le_of_ble_eq_true rfl) (Nat.le_of_ble_eq_true rfl) (by omega) (by omega) c9 ?_
  obtain ⟨ν1, hν1⟩ : hm_LX μ1 := ⟨_, c9.1⟩
  refine lj_m C (show decode code 1062 = .ok (.aload_n 2, 1) by decide +kernel) (pc' := 1063) rfl ?_
  refine lj_arg (k := 1) C hL (by omega) rfl (show decode code 1063 = .ok (.aload_n 0, 1) by decide +kernel) (show decode code 1064 = .ok (.iload_n 3, 1) by decide +kernel) (show decode code 1065 = .ok (.iconst 1, 1) by decide +kernel) (show decode code 1066 = .ok (.iadd, 1) by decide +kernel) (show decode code 1067 = .ok (.iaload, 1) by decide +kernel) (pc' := 1068) rfl ?_
  have c10 := ok_X10_image (fr := 2000) (ν := ν1) (by decide) (xs (j + 1)) μ1 hν1 e10
  refine lj_call (As := [.int (xs (j + 1))]) (ci := 10) (st := [.int r]) C okm_X10_image (hm_tb_in (tb_6 (List.mem_of_getElem? (i := 72) rfl)) rfl) (show decode code 1068 = .ok (.invokevirtual 158, 3) by decide +kernel) (pc' := 1071) rfl rfl rfl (by decide) (la_o hν1 (by decide) rfl) rfl rfl (Nat.le_of_ble_eq_true rfl) (Nat.le_of_ble_eq_true rfl) (by omega) (by omega) c10 ?_
  refine lj_eq C (show decode code 1071 = .ok (.if_icmp .eq 64, 3) by decide +kernel) (pc' := 1135) (by decide) ?_
  exact lj_w (by omega) (by omega) (K μ2 h2)
set_option maxRecDepth 100000 in
theorem lj_back {P : hm_M → Prop} (hP : pu_all P) (C : lw_C g p s m meth c b L xs) (hL : L ≤ 3072) {j : Nat} (hj : j + 5 < L) {μ : hm_M} (h : P μ) (hk : cells + 4 ≤ 600000) (hs : slots + 878 ≤ 7302250) (K : ∀ μ2, P μ2 → lj g p l e s m below meth c b (Int32.ofNat j) 1135 [] μ2 (cells + 4) (slots + 878)) : lj g p l e s m below meth c b (Int32.ofNat j) 1076 [] μ cells slots := by
  obtain ⟨ν, hν⟩ := hP.1 μ h
  obtain ⟨r, μ1, μ2, e9, e10, h2⟩ := hP.2.2.2.2.2.2.2.2.1 (xs (j + 1)) μ h
  refine lj_x C (show decode code 1076 = .ok (.aload_n 1, 1) by decide +kernel) (pc' := 1077) rfl ?_
  refine lj_arg (k := 1) C hL (by omega) rfl (show decode code 1077 = .ok (.aload_n 0, 1) by decide +kernel) (show decode code 1078 = .ok (.iload_n 3, 1) by decide +kernel) (show decode code 1079 = .ok (.iconst 1, 1) by decide +kernel) (show decode code 1080 = .ok (.iadd, 1) by decide +kernel) (show decode code 1081 = .ok (.iaload, 1) by decide +kernel) (pc' := 1082) rfl ?_
  have c9 := ok_X9_back (fr := 2000) (ν := ν) (by decide) (xs (j + 1)) μ hν e9
  refine lj_call (As := [.int (xs (j + 1))]) (ci := 9) (st := []) C okm_X9_back (hm_tb_in (tb_5 (List.mem_of_getElem? (i := 125) rfl)) rfl) (show decode code 1082 = .ok (.invokevirtual 159, 3) by decide +kernel) (pc' := 1085) rfl rfl rfl (by decide) (la_o hν (by decide) rfl) rfl rfl (Nat.le_of_ble_eq_true rfl) (Nat.le_of_ble_eq_true rfl) (by omega) (by omega) c9 ?_
  obtain ⟨ν1, hν1⟩ : hm_LX μ1 := ⟨_, c9.1⟩
  refine lj_m C (show decode code 1085 = .ok (.aload_n 2, 1) by decide +kernel) (pc' := 1086) rfl ?_
  refine lj_arg (k := 1) C hL (by omega) rfl (show decode code 1086 = .ok (.aload_n 0, 1) by decide +kernel) (show decode code 1087 = .ok (.iload_n 3, 1) by decide +kernel) (show decode code 1088 = .ok (.iconst 1, 1) by decide +kernel) (show decode code 1089 = .ok (.iadd, 1) by decide +kernel) (show decode code 1090 = .ok (.iaload, 1) by decide +kernel) (pc' := 1091) rfl ?_
  have c10 := ok_X10_back (fr := 2000) (ν := ν1) (by decide) (xs (j + 1)) μ1 hν1 e10
  refine lj_call (As := [.int (xs (j + 1))]) (ci := 10) (st := [.int r]) C okm_X10_back (hm_tb_in (tb_6 (List.mem_of_getElem? (i := 87) rfl)) rfl) (show decode code 1091 = .ok (.invokevirtual 162, 3) by decide +kernel) (pc' := 1094) rfl rfl rfl (by decide) (la_o hν1 (by decide) rfl) rfl rfl (Nat.le_of_ble_eq_true rfl) (Nat.le_of_ble_eq_true rfl) (by omega) (by omega) c10 ?_
  refine lj_eq C (show decode code 1094 = .ok (.if_icmp .eq 41, 3) by decide +kernel) (pc' := 1135) (by decide) ?_
  exact lj_w (by omega) (by omega) (K μ2 h2)
set_option maxRecDepth 100000 in
theorem lj_count {P : hm_M → Prop} (hP : pu_all P) (C : lw_C g p s m meth c b L xs) (hL : L ≤ 3072) {j : Nat} (hj : j + 5 < L) {μ : hm_M} (h : P μ) (hk : cells + 4 ≤ 600000) (hs : slots + 878 ≤ 7302250) (K : ∀ μ2, P μ2 → lj g p l e s m below meth c b (Int32.ofNat j) 1135 [] μ2 (cells + 4) (slots + 878)) : lj g p l e s m below meth c b (Int32.ofNat j) 1099 [] μ cells slots := by
  obtain ⟨ν, hν⟩ := hP.1 μ h
  obtain ⟨r, e9, e10⟩ := hP.2.2.2.2.2.2.2.2.2.1 (xs (j + 1)) μ h
  refine lj_x C (show decode code 1099 = .ok (.aload_n 1, 1) by decide +kernel) (pc' := 1100) rfl ?_
  refine lj_arg (k := 1) C hL (by omega) rfl (show decode code 1100 = .ok (.aload_n 0, 1) by decide +kernel) (show decode code 1101 = .ok (.iload_n 3, 1) by decide +kernel) (show decode code 1102 = .ok (.iconst 1, 1) by decide +kernel) (show decode code 1103 = .ok (.iadd, 1) by decide +kernel) (show decode code 1104 = .ok (.iaload, 1) by decide +kernel) (pc' := 1105) rfl ?_
  have c9 := ok_X9_count (fr := 2000) (ν := ν) (by decide) (xs (j + 1)) μ hν e9
  refine lj_call (As := [.int (xs (j + 1))]) (ci := 9) (st := []) C okm_X9_count (hm_tb_in (tb_5 (List.mem_of_getElem? (i := 129) rfl)) rfl) (show decode code 1105 = .ok (.invokevirtual 163, 3) by decide +kernel) (pc' := 1108) rfl rfl rfl (by decide) (la_o hν (by decide) rfl) rfl rfl (Nat.le_of_ble_eq_true rfl) (Nat.le_of_ble_eq_true rfl) (by omega) (by omega) c9 ?_
  obtain ⟨ν1, hν1⟩ : hm_LX μ := ⟨_, c9.1⟩
  refine lj_m C (show decode code 1108 = .ok (.aload_n 2, 1) by decide +kernel) (pc' := 1109) rfl ?_
  refine lj_arg (k := 1) C hL (by omega) rfl (show decode code 1109 = .ok (.aload_n 0, 1) by decide +kernel) (show decode code 1110 = .ok (.iload_n 3, 1) by decide +kernel) (show decode code 1111 = .ok (.iconst 1, 1) by decide +kernel) (show decode code 1112 = .ok (.iadd, 1) by decide +kernel) (show decode code 1113 = .ok (.iaload, 1) by decide +kernel) (pc' := 1114) rfl ?_
  have c10 := ok_X10_count (fr := 2000) (ν := ν1) (by decide) (xs (j + 1)) μ hν1 e10
  refine lj_call (As := [.int (xs (j + 1))]) (ci := 10) (st := [.int r]) C okm_X10_count (hm_tb_in (tb_8 (List.mem_of_getElem? (i := 128) rfl)) rfl) (show decode code 1114 = .ok (.invokevirtual 166, 3) by decide +kernel) (pc' := 1117) rfl rfl rfl (by decide) (la_o hν1 (by decide) rfl) rfl rfl (Nat.le_of_ble_eq_true rfl) (Nat.le_of_ble_eq_true rfl) (by omega) (by omega) c10 ?_
  refine lj_eq C (show decode code 1117 = .ok (.if_icmp .eq 18, 3) by decide +kernel) (pc' := 1135) (by decide) ?_
  exact lj_w (by omega) (by omega) (K μ h)
set_option maxRecDepth 100000 in
theorem lj_status {P : hm_M → Prop} (hP : pu_all P) (C : lw_C g p s m meth c b L xs) (hL : L ≤ 3072) {j : Nat} (hj : j + 5 < L) {μ : hm_M} (h : P μ) (hk : cells + 4 ≤ 600000) (hs : slots + 878 ≤ 7302250) (K : ∀ μ2, P μ2 → lj g p l e s m below meth c b (Int32.ofNat j) 1135 [] μ2 (cells + 4) (slots + 878)) : lj g p l e s m below meth c b (Int32.ofNat j) 1122 [] μ cells slots := by
  obtain ⟨ν, hν⟩ := hP.1 μ h
  obtain ⟨r, e9, e10⟩ := hP.2.2.2.2.2.2.2.2.2.2  μ h
  refine lj_x C (show decode code 1122 = .ok (.aload_n 1, 1) by decide +kernel) (pc' := 1123) rfl ?_
  have c9 := ok_X9_status (fr := 2000) (ν := ν) (by decide)  μ hν e9
  refine lj_call (As := []) (ci := 9) (st := []) C okm_X9_status (hm_tb_in (tb_5 (List.mem_of_getElem? (i := 133) rfl)) rfl) (show decode code 1123 = .ok (.invokevirtual 167, 3) by decide +kernel) (pc' := 1126) rfl rfl rfl (by decide) (la_o hν (by decide) rfl) rfl rfl (Nat.le_of_ble_eq_true rfl) (Nat.le_of_ble_eq_true rfl) (by omega) (by omega) c9 ?_
  obtain ⟨ν1, hν1⟩ : hm_LX μ := ⟨_, c9.1⟩
  refine lj_m C (show decode code 1126 = .ok (.aload_n 2, 1) by decide +kernel) (pc' := 1127) rfl ?_
  have c10 := ok_X10_status (fr := 2000) (ν := ν1) (by decide)  μ hν1 e10
  refine lj_call (As := []) (ci := 10) (st := [.int r]) C okm_X10_status (hm_tb_in (tb_8 (List.mem_of_getElem? (i := 132) rfl)) rfl) (show decode code 1127 = .ok (.invokevirtual 170, 3) by decide +kernel) (pc' := 1130) rfl rfl rfl (by decide) (la_o hν1 (by decide) rfl) rfl rfl (Nat.le_of_ble_eq_true rfl) (Nat.le_of_ble_eq_true rfl) (by omega) (by omega) c10 ?_
  refine lj_eq C (show decode code 1130 = .ok (.if_icmp .eq 5, 3) by decide +kernel) (pc' := 1135) (by decide) ?_
  exact lj_w (by omega) (by omega) (K μ h)
end LJC
