/-! The two objects' own constructors (printed by gen/ctor4.py). -/
def i_X9 (μ : hm_M) : hm_M := hm_wR (i_X8 (169) (hm_al (hm_wR (i_X8 (159) (hm_al (hm_wR (hm_al (hm_wR (hm_al (hm_wI (hm_wI (hm_wR (hm_al (hm_wR (i_X6 (150) (hm_al (hm_wR (i_X0 (145) (106) (hm_al (hm_wR (i_X2 (112) (106) (110) (hm_al (hm_wR (i_X1 (110) (106) (hm_al (hm_wR (i_X3 (106) (hm_al (hm_wR (i_X7 (87) (hm_al (hm_wR (i_X8 (77) (hm_al (hm_wR (hm_al (hm_wR (hm_al (hm_wR (i_X8 (65) (hm_al (μ) 8 13)) 64 0 (some (65))) 17 2) 64 1 (some (75))) 15 2) 64 2 (some (76))) 8 13)) 64 3 (some (77))) 7 3)) 64 5 (some (87))) 3 1)) 64 6 (some (106))) 1 2)) 64 7 (some (110))) 2 7)) 64 8 (some (112))) 0 7)) 64 9 (some (145))) 6 10)) 64 10 (some (150))) 12 400) 64 11 (some (156))) 64 13 (-1 : Int32)) 64 14 (-1 : Int32)) 13 5) 64 17 (some (157))) 14 20) 64 18 (some (158))) 8 13)) 75 0 (some (159))) 8 13)) 75 1 (some (169))
set_option maxRecDepth 100000 in
theorem ok_X9_init {Λ : hm_M → Prop} {fr : Nat} (hfr : 3 ≤ fr) (μ : hm_M) (s0 : hm_sh μ 64 65 [(9, 19)]) (hL : Λ (i_X9 μ)) : hm_CC Λ m_X9_init fr 114 6962 [.ref 64] μ none (i_X9 μ) := by
  refine hm_enter (lv := [some (.ref 64), none]) (by decide) rfl (Nat.le_of_ble_eq_true rfl) ?_
  refine tr_aload_n (pc' := 1) (show decode cX9_init 0 = .ok (.aload_n 0, 1) by decide +kernel) rfl rfl rfl ?_
  refine tr_objInit (pc' := 4) lo_HandRing_3 kw_oi_i kw_oi_c (show decode cX9_init 1 = .ok (.invokespecial 3, 3) by decide +kernel) rfl (Nat.le_of_ble_eq_true rfl) (by omega) ?_
  refine tr_aload_n (pc' := 5) (show decode cX9_init 4 = .ok (.aload_n 0, 1) by decide +kernel) rfl rfl rfl ?_
  refine tn_newN (pc' := 8) (n := 65) (sh_nx s0) kl_8 tyX8 tyX8_ok df_8 kcl_HandRing_9 kw_in_8 kw_ini_8 (show decode cX9_init 5 = .ok (.new 9, 3) by decide +kernel) rfl (Nat.le_of_ble_eq_true rfl) (Nat.le_of_ble_eq_true rfl) ?_
  have s1 : hm_sh _ 64 66 _ := sh_al (k := 8) (L := 13) (n' := 66) s0 rfl
  refine tr_dup (pc' := 9) (show decode cX9_init 8 = .ok (.dup, 1) by decide +kernel) rfl rfl ?_
  refine tr_callI (pc' := 12) (a := 65) (As := []) (fr1 := fr - 1) okm_X8_init lk_HandRing_11 (show decode cX9_init 9 = .ok (.invokespecial 11, 3) by decide +kernel) rfl (by have := s0.1; omega) rfl rfl (Nat.le_of_ble_eq_true rfl) (by omega) (Nat.le_of_ble_eq_true rfl) (Nat.le_of_ble_eq_true rfl) (ok_X8_init (Λ := fun _ => True) (o := 65) (by omega) _ (sh_last s1 rfl) trivial) ?_
  have s2 : hm_sh _ 64 75 _ := sh_X8 (o := 65) (n' := 75) s1 rfl
  refine tn_put (pc' := 15) (x := 65) fl_HandRing_12 rfl (fun q hq => by cases hq; rfl) (show decode cX9_init 12 = .ok (.putfield 12, 3) by decide +kernel) rfl (sh_at s2 (i := 0) rfl rfl) (hm_nfO _) ?_
  have s3 : hm_sh _ 64 75 _ := sh_wR (a := 64) (j := 0) (v := some (65)) s2
  refine tr_aload_n (pc' := 16) (show decode cX9_init 15 = .ok (.aload_n 0, 1) by decide +kernel) rfl rfl rfl ?_
  refine tr_iconst (pc' := 17) (v := (2 : Int32)) (show decode cX9_init 16 = .ok (.iconst 2, 1) by decide +kernel) rfl (by decide) ?_
  refine tn_aref (pc' := 20) (n := 75) (L := 2) (kd := 17) (t0 := 6) (sh_nx s3) (by decide) (fun _ => rfl) kcl_HandRing_9 (fun g U h => h.2.2.2.2.2.1) (by decide) (by decide +kernel) (Nat.le_of_ble_eq_true rfl) (show decode cX9_init 17 = .ok (.anewarray 9, 3) by decide +kernel) rfl (Nat.le_of_ble_eq_true rfl) (Nat.le_of_ble_eq_true rfl) ?_
  have s4 : hm_sh _ 64 76 _ := sh_al (k := 17) (L := 2) (n' := 76) s3 rfl
  refine tn_put (pc' := 23) (x := 75) fl_HandRing_16 rfl (fun q hq => by cases hq; rfl) (show decode cX9_init 20 = .ok (.putfield 16, 3) by decide +kernel) rfl (sh_at s4 (i := 0) rfl rfl) (hm_nfA _) ?_
  have s5 : hm_sh _ 64 76 _ := sh_wR (a := 64) (j := 1) (v := some (75)) s4
  have r1 := rf_wSh s5
  refine tr_aload_n (pc' := 24) (show decode cX9_init 23 = .ok (.aload_n 0, 1) by decide +kernel) rfl rfl rfl ?_
  refine tr_iconst (pc' := 25) (v := (2 : Int32)) (show decode cX9_init 24 = .ok (.iconst 2, 1) by decide +kernel) rfl (by decide) ?_
  refine tn_bool (pc' := 27) (n := 76) (L := 2) (sh_nx s5) (by decide) (by decide +kernel) (Nat.le_of_ble_eq_true rfl) (show decode cX9_init 25 = .ok (.newarray .boolean, 2) by decide +kernel) rfl (Nat.le_of_ble_eq_true rfl) (Nat.le_of_ble_eq_true rfl) ?_
  have s6 : hm_sh _ 64 77 _ := sh_al (k := 15) (L := 2) (n' := 77) s5 rfl
  replace r1 := rf_al (k := 15) (L := 2) (sh_nx s5) r1 (by omega)
  refine tn_put (pc' := 30) (x := 76) fl_HandRing_20 rfl (fun q hq => by cases hq; rfl) (show decode cX9_init 27 = .ok (.putfield 20, 3) by decide +kernel) rfl (sh_at s6 (i := 0) rfl rfl) (hm_nfA _) ?_
  have s7 : hm_sh _ 64 77 _ := sh_wR (a := 64) (j := 2) (v := some (76)) s6
  replace r1 := rf_wR (b := 64) (i := 2) (v := some (76)) r1 (by omega)
  refine tr_aload_n (pc' := 31) (show decode cX9_init 30 = .ok (.aload_n 0, 1) by decide +kernel) rfl rfl rfl ?_
  refine tn_newN (pc' := 34) (n := 77) (sh_nx s7) kl_8 tyX8 tyX8_ok df_8 kcl_HandRing_9 kw_in_8 kw_ini_8 (show decode cX9_init 31 = .ok (.new 9, 3) by decide +kernel) rfl (Nat.le_of_ble_eq_true rfl) (Nat.le_of_ble_eq_true rfl) ?_
  have s8 : hm_sh _ 64 78 _ := sh_al (k := 8) (L := 13) (n' := 78) s7 rfl
  replace r1 := rf_al (k := 8) (L := 13) (sh_nx s7) r1 (by omega)
  refine tr_dup (pc' := 35) (show decode cX9_init 34 = .ok (.dup, 1) by decide +kernel) rfl rfl ?_
  refine tr_callI (pc' := 38) (a := 77) (As := []) (fr1 := fr - 1) okm_X8_init lk_HandRing_11 (show decode cX9_init 35 = .ok (.invokespecial 11, 3) by decide +kernel) rfl (by have := s0.1; omega) rfl rfl (Nat.le_of_ble_eq_true rfl) (by omega) (Nat.le_of_ble_eq_true rfl) (Nat.le_of_ble_eq_true rfl) (ok_X8_init (Λ := fun _ => True) (o := 77) (by omega) _ (sh_last s8 rfl) trivial) ?_
  have s9 : hm_sh _ 64 87 _ := sh_X8 (o := 77) (n' := 87) s8 rfl
  replace r1 := rf_X8 (o := 77) (sh_last s8 rfl) r1 (by omega)
  refine tn_put (pc' := 41) (x := 77) fl_HandRing_24 rfl (fun q hq => by cases hq; rfl) (show decode cX9_init 38 = .ok (.putfield 24, 3) by decide +kernel) rfl (sh_at s9 (i := 0) rfl rfl) (hm_nfO _) ?_
  have s10 : hm_sh _ 64 87 _ := sh_wR (a := 64) (j := 3) (v := some (77)) s9
  replace r1 := rf_wR (b := 64) (i := 3) (v := some (77)) r1 (by omega)
  refine tr_aload_n (pc' := 42) (show decode cX9_init 41 = .ok (.aload_n 0, 1) by decide +kernel) rfl rfl rfl ?_
  refine tn_newN (pc' := 45) (n := 87) (sh_nx s10) kl_7 tyX7 tyX7_ok df_7 kcl_HandRing_27 kw_in_7 kw_ini_7 (show decode cX9_init 42 = .ok (.new 27, 3) by decide +kernel) rfl (Nat.le_of_ble_eq_true rfl) (Nat.le_of_ble_eq_true rfl) ?_
  have s11 : hm_sh _ 64 88 _ := sh_al (k := 7) (L := 3) (n' := 88) s10 rfl
  replace r1 := rf_al (k := 7) (L := 3) (sh_nx s10) r1 (by omega)
  refine tr_dup (pc' := 46) (show decode cX9_init 45 = .ok (.dup, 1) by decide +kernel) rfl rfl ?_
  refine tr_callIN (pc' := 49) (a := 87) (As := []) (fr1 := fr - 1) (j := 0) (host := "HandRing") okm_X7_init rfl (show decode cX9_init 46 = .ok (.invokespecial 29, 3) by decide +kernel) rfl (by have := s0.1; omega) rfl rfl (Nat.le_of_ble_eq_true rfl) (by omega) (Nat.le_of_ble_eq_true rfl) (Nat.le_of_ble_eq_true rfl) (ok_X7_init (Λ := fun _ => True) (o := 87) (by omega) _ (sh_last s11 rfl) trivial) ?_
  have s12 : hm_sh _ 64 106 _ := sh_X7 (o := 87) (n' := 106) s11 rfl
  replace r1 := rf_X7 (o := 87) (sh_last s11 rfl) r1 (by omega)
  refine tn_put (pc' := 52) (x := 87) fl_HandRing_30 rfl (fun q hq => by cases hq; rfl) (show decode cX9_init 49 = .ok (.putfield 30, 3) by decide +kernel) rfl (sh_at s12 (i := 0) rfl rfl) (hm_nfO _) ?_
  have s13 : hm_sh _ 64 106 _ := sh_wR (a := 64) (j := 5) (v := some (87)) s12
  replace r1 := rf_wR (b := 64) (i := 5) (v := some (87)) r1 (by omega)
  refine tr_aload_n (pc' := 53) (show decode cX9_init 52 = .ok (.aload_n 0, 1) by decide +kernel) rfl rfl rfl ?_
  refine tn_newN (pc' := 56) (n := 106) (sh_nx s13) kl_3 tyX3 tyX3_ok df_3 kcl_HandRing_34 kw_in_3 kw_ini_3 (show decode cX9_init 53 = .ok (.new 34, 3) by decide +kernel) rfl (Nat.le_of_ble_eq_true rfl) (Nat.le_of_ble_eq_true rfl) ?_
  have s14 : hm_sh _ 64 107 _ := sh_al (k := 3) (L := 1) (n' := 107) s13 rfl
  replace r1 := rf_al (k := 3) (L := 1) (sh_nx s13) r1 (by omega)
  refine tr_dup (pc' := 57) (show decode cX9_init 56 = .ok (.dup, 1) by decide +kernel) rfl rfl ?_
  refine tr_callIN (pc' := 60) (a := 106) (As := []) (fr1 := fr - 1) (j := 1) (host := "HandRing") okm_X3_init rfl (show decode cX9_init 57 = .ok (.invokespecial 36, 3) by decide +kernel) rfl (by have := s0.1; omega) rfl rfl (Nat.le_of_ble_eq_true rfl) (by omega) (Nat.le_of_ble_eq_true rfl) (Nat.le_of_ble_eq_true rfl) (ok_X3_init (Λ := fun _ => True) (o := 106) (by omega) _ (sh_last s14 rfl) trivial) ?_
  have s15 : hm_sh _ 64 110 _ := sh_X3 (o := 106) (n' := 110) s14 rfl
  replace r1 := rf_X3 (o := 106) (sh_last s14 rfl) r1 (by omega)
  refine tn_put (pc' := 63) (x := 106) fl_HandRing_37 rfl (fun q hq => by cases hq; rfl) (show decode cX9_init 60 = .ok (.putfield 37, 3) by decide +kernel) rfl (sh_at s15 (i := 0) rfl rfl) (hm_nfO _) ?_
  have s16 : hm_sh _ 64 110 _ := sh_wR (a := 64) (j := 6) (v := some (106)) s15
  replace r1 := rf_wR (b := 64) (i := 6) (v := some (106)) r1 (by omega)
  have r6 := rf_wSh s16
  refine tr_aload_n (pc' := 64) (show decode cX9_init 63 = .ok (.aload_n 0, 1) by decide +kernel) rfl rfl rfl ?_
  refine tn_newN (pc' := 67) (n := 110) (sh_nx s16) kl_1 tyX1 tyX1_ok df_1 kcl_HandRing_41 kw_in_1 kw_ini_1 (show decode cX9_init 64 = .ok (.new 41, 3) by decide +kernel) rfl (Nat.le_of_ble_eq_true rfl) (Nat.le_of_ble_eq_true rfl) ?_
  have s17 : hm_sh _ 64 111 _ := sh_al (k := 1) (L := 2) (n' := 111) s16 rfl
  replace r1 := rf_al (k := 1) (L := 2) (sh_nx s16) r1 (by omega)
  replace r6 := rf_al (k := 1) (L := 2) (sh_nx s16) r6 (by omega)
  refine tr_dup (pc' := 68) (show decode cX9_init 67 = .ok (.dup, 1) by decide +kernel) rfl rfl ?_
  refine tr_aload_n (pc' := 69) (show decode cX9_init 68 = .ok (.aload_n 0, 1) by decide +kernel) rfl rfl rfl ?_
  refine tr_getR (pc' := 72) fl_HandRing_37 (show decode cX9_init 69 = .ok (.getfield 37, 3) by decide +kernel) rfl (sh_at s17 (i := 0) rfl rfl) (rf_of r6) ?_
  refine tr_callI (pc' := 75) (a := 110) (As := [.ref (106)]) (fr1 := fr - 1) okm_X1_init lk_HandRing_43 (show decode cX9_init 72 = .ok (.invokespecial 43, 3) by decide +kernel) rfl (by have := s0.1; omega) rfl rfl (Nat.le_of_ble_eq_true rfl) (by omega) (Nat.le_of_ble_eq_true rfl) (Nat.le_of_ble_eq_true rfl) (ok_X1_init (Λ := fun _ => True) (o := 110) (q1 := 106) (by omega) _ (sh_last s17 rfl) trivial) ?_
  have s18 : hm_sh _ 64 112 _ := sh_X1 (o := 110) (q1 := 106) (n' := 112) s17 rfl
  replace r1 := rf_X1 (o := 110) (q1 := 106) (sh_last s17 rfl) r1 (by omega)
  replace r6 := rf_X1 (o := 110) (q1 := 106) (sh_last s17 rfl) r6 (by omega)
  refine tn_put (pc' := 78) (x := 110) fl_HandRing_46 rfl (fun q hq => by cases hq; rfl) (show decode cX9_init 75 = .ok (.putfield 46, 3) by decide +kernel) rfl (sh_at s18 (i := 0) rfl rfl) (hm_nfO _) ?_
  have s19 : hm_sh _ 64 112 _ := sh_wR (a := 64) (j := 7) (v := some (110)) s18
  replace r1 := rf_wR (b := 64) (i := 7) (v := some (110)) r1 (by omega)
  replace r6 := rf_wR (b := 64) (i := 7) (v := some (110)) r6 (by omega)
  have r7 := rf_wSh s19
  refine tr_aload_n (pc' := 79) (show decode cX9_init 78 = .ok (.aload_n 0, 1) by decide +kernel) rfl rfl rfl ?_
  refine tn_newN (pc' := 82) (n := 112) (sh_nx s19) kl_2 tyX2 tyX2_ok df_2 kcl_HandRing_50 kw_in_2 kw_ini_2 (show decode cX9_init 79 = .ok (.new 50, 3) by decide +kernel) rfl (Nat.le_of_ble_eq_true rfl) (Nat.le_of_ble_eq_true rfl) ?_
  have s20 : hm_sh _ 64 113 _ := sh_al (k := 2) (L := 7) (n' := 113) s19 rfl
  replace r1 := rf_al (k := 2) (L := 7) (sh_nx s19) r1 (by omega)
  replace r6 := rf_al (k := 2) (L := 7) (sh_nx s19) r6 (by omega)
  replace r7 := rf_al (k := 2) (L := 7) (sh_nx s19) r7 (by omega)
  refine tr_dup (pc' := 83) (show decode cX9_init 82 = .ok (.dup, 1) by decide +kernel) rfl rfl ?_
  refine tr_aload_n (pc' := 84) (show decode cX9_init 83 = .ok (.aload_n 0, 1) by decide +kernel) rfl rfl rfl ?_
  refine tr_getR (pc' := 87) fl_HandRing_37 (show decode cX9_init 84 = .ok (.getfield 37, 3) by decide +kernel) rfl (sh_at s20 (i := 0) rfl rfl) (rf_of r6) ?_
  refine tr_aload_n (pc' := 88) (show decode cX9_init 87 = .ok (.aload_n 0, 1) by decide +kernel) rfl rfl rfl ?_
  refine tr_getR (pc' := 91) fl_HandRing_46 (show decode cX9_init 88 = .ok (.getfield 46, 3) by decide +kernel) rfl (sh_at s20 (i := 0) rfl rfl) (rf_of r7) ?_
  refine tr_callI (pc' := 94) (a := 112) (As := [.ref (106), .ref (110)]) (fr1 := fr - 1) okm_X2_init lk_HandRing_52 (show decode cX9_init 91 = .ok (.invokespecial 52, 3) by decide +kernel) rfl (by have := s0.1; omega) rfl rfl (Nat.le_of_ble_eq_true rfl) (by omega) (Nat.le_of_ble_eq_true rfl) (Nat.le_of_ble_eq_true rfl) (ok_X2_init (Λ := fun _ => True) (o := 112) (q1 := 106) (q2 := 110) (by omega) _ (sh_last s20 rfl) trivial) ?_
  have s21 : hm_sh _ 64 145 _ := sh_X2 (o := 112) (q1 := 106) (q2 := 110) (n' := 145) s20 rfl
  replace r1 := rf_X2 (o := 112) (q1 := 106) (q2 := 110) (sh_last s20 rfl) r1 (by omega)
  replace r6 := rf_X2 (o := 112) (q1 := 106) (q2 := 110) (sh_last s20 rfl) r6 (by omega)
  replace r7 := rf_X2 (o := 112) (q1 := 106) (q2 := 110) (sh_last s20 rfl) r7 (by omega)
  refine tn_put (pc' := 97) (x := 112) fl_HandRing_55 rfl (fun q hq => by cases hq; rfl) (show decode cX9_init 94 = .ok (.putfield 55, 3) by decide +kernel) rfl (sh_at s21 (i := 0) rfl rfl) (hm_nfO _) ?_
  have s22 : hm_sh _ 64 145 _ := sh_wR (a := 64) (j := 8) (v := some (112)) s21
  replace r1 := rf_wR (b := 64) (i := 8) (v := some (112)) r1 (by omega)
  replace r6 := rf_wR (b := 64) (i := 8) (v := some (112)) r6 (by omega)
  replace r7 := rf_wR (b := 64) (i := 8) (v := some (112)) r7 (by omega)
  refine tr_aload_n (pc' := 98) (show decode cX9_init 97 = .ok (.aload_n 0, 1) by decide +kernel) rfl rfl rfl ?_
  refine tn_newN (pc' := 101) (n := 145) (sh_nx s22) kl_0 tyX0 tyX0_ok df_0 kcl_HandRing_59 kw_in_0 kw_ini_0 (show decode cX9_init 98 = .ok (.new 59, 3) by decide +kernel) rfl (Nat.le_of_ble_eq_true rfl) (Nat.le_of_ble_eq_true rfl) ?_
  have s23 : hm_sh _ 64 146 _ := sh_al (k := 0) (L := 7) (n' := 146) s22 rfl
  replace r1 := rf_al (k := 0) (L := 7) (sh_nx s22) r1 (by omega)
  replace r6 := rf_al (k := 0) (L := 7) (sh_nx s22) r6 (by omega)
  replace r7 := rf_al (k := 0) (L := 7) (sh_nx s22) r7 (by omega)
  refine tr_dup (pc' := 102) (show decode cX9_init 101 = .ok (.dup, 1) by decide +kernel) rfl rfl ?_
  refine tr_aload_n (pc' := 103) (show decode cX9_init 102 = .ok (.aload_n 0, 1) by decide +kernel) rfl rfl rfl ?_
  refine tr_getR (pc' := 106) fl_HandRing_37 (show decode cX9_init 103 = .ok (.getfield 37, 3) by decide +kernel) rfl (sh_at s23 (i := 0) rfl rfl) (rf_of r6) ?_
  refine tr_callI (pc' := 109) (a := 145) (As := [.ref (106)]) (fr1 := fr - 1) okm_X0_init lk_HandRing_61 (show decode cX9_init 106 = .ok (.invokespecial 61, 3) by decide +kernel) rfl (by have := s0.1; omega) rfl rfl (Nat.le_of_ble_eq_true rfl) (by omega) (Nat.le_of_ble_eq_true rfl) (Nat.le_of_ble_eq_true rfl) (ok_X0_init (Λ := fun _ => True) (o := 145) (q1 := 106) (by omega) _ (sh_last s23 rfl) trivial) ?_
  have s24 : hm_sh _ 64 150 _ := sh_X0 (o := 145) (q1 := 106) (n' := 150) s23 rfl
  replace r1 := rf_X0 (o := 145) (q1 := 106) (sh_last s23 rfl) r1 (by omega)
  replace r6 := rf_X0 (o := 145) (q1 := 106) (sh_last s23 rfl) r6 (by omega)
  replace r7 := rf_X0 (o := 145) (q1 := 106) (sh_last s23 rfl) r7 (by omega)
  refine tn_put (pc' := 112) (x := 145) fl_HandRing_62 rfl (fun q hq => by cases hq; rfl) (show decode cX9_init 109 = .ok (.putfield 62, 3) by decide +kernel) rfl (sh_at s24 (i := 0) rfl rfl) (hm_nfO _) ?_
  have s25 : hm_sh _ 64 150 _ := sh_wR (a := 64) (j := 9) (v := some (145)) s24
  replace r1 := rf_wR (b := 64) (i := 9) (v := some (145)) r1 (by omega)
  replace r6 := rf_wR (b := 64) (i := 9) (v := some (145)) r6 (by omega)
  replace r7 := rf_wR (b := 64) (i := 9) (v := some (145)) r7 (by omega)
  refine tr_aload_n (pc' := 113) (show decode cX9_init 112 = .ok (.aload_n 0, 1) by decide +kernel) rfl rfl rfl ?_
  refine tn_newN (pc' := 116) (n := 150) (sh_nx s25) kl_6 tyX6 tyX6_ok df_6 kcl_HandRing_66 kw_in_6 kw_ini_6 (show decode cX9_init 113 = .ok (.new 66, 3) by decide +kernel) rfl (Nat.le_of_ble_eq_true rfl) (Nat.le_of_ble_eq_true rfl) ?_
  have s26 : hm_sh _ 64 151 _ := sh_al (k := 6) (L := 10) (n' := 151) s25 rfl
  replace r1 := rf_al (k := 6) (L := 10) (sh_nx s25) r1 (by omega)
  replace r6 := rf_al (k := 6) (L := 10) (sh_nx s25) r6 (by omega)
  replace r7 := rf_al (k := 6) (L := 10) (sh_nx s25) r7 (by omega)
  refine tr_dup (pc' := 117) (show decode cX9_init 116 = .ok (.dup, 1) by decide +kernel) rfl rfl ?_
  refine tr_callIN (pc' := 120) (a := 150) (As := []) (fr1 := fr - 1) (j := 3) (host := "HandRing") okm_X6_init rfl (show decode cX9_init 117 = .ok (.invokespecial 68, 3) by decide +kernel) rfl (by have := s0.1; omega) rfl rfl (Nat.le_of_ble_eq_true rfl) (by omega) (Nat.le_of_ble_eq_true rfl) (Nat.le_of_ble_eq_true rfl) (ok_X6_init (Λ := fun _ => True) (o := 150) (by omega) _ (sh_last s26 rfl) trivial) ?_
  have s27 : hm_sh _ 64 156 _ := sh_X6 (o := 150) (n' := 156) s26 rfl
  replace r1 := rf_X6 (o := 150) (sh_last s26 rfl) r1 (by omega)
  replace r6 := rf_X6 (o := 150) (sh_last s26 rfl) r6 (by omega)
  replace r7 := rf_X6 (o := 150) (sh_last s26 rfl) r7 (by omega)
  refine tn_put (pc' := 123) (x := 150) fl_HandRing_69 rfl (fun q hq => by cases hq; rfl) (show decode cX9_init 120 = .ok (.putfield 69, 3) by decide +kernel) rfl (sh_at s27 (i := 0) rfl rfl) (hm_nfO _) ?_
  have s28 : hm_sh _ 64 156 _ := sh_wR (a := 64) (j := 10) (v := some (150)) s27
  replace r1 := rf_wR (b := 64) (i := 10) (v := some (150)) r1 (by omega)
  replace r6 := rf_wR (b := 64) (i := 10) (v := some (150)) r6 (by omega)
  replace r7 := rf_wR (b := 64) (i := 10) (v := some (150)) r7 (by omega)
  refine tr_aload_n (pc' := 124) (show decode cX9_init 123 = .ok (.aload_n 0, 1) by decide +kernel) rfl rfl rfl ?_
  refine tr_sipush (pc' := 127) (v := (400 : Int32)) (show decode cX9_init 124 = .ok (.sipush 400, 3) by decide +kernel) rfl (by decide) ?_
  refine tn_char (pc' := 129) (n := 156) (L := 400) (sh_nx s28) (by decide) (by decide +kernel) (Nat.le_of_ble_eq_true rfl) (show decode cX9_init 127 = .ok (.newarray .char, 2) by decide +kernel) rfl (Nat.le_of_ble_eq_true rfl) (Nat.le_of_ble_eq_true rfl) ?_
  have s29 : hm_sh _ 64 157 _ := sh_al (k := 12) (L := 400) (n' := 157) s28 rfl
  replace r1 := rf_al (k := 12) (L := 400) (sh_nx s28) r1 (by omega)
  replace r6 := rf_al (k := 12) (L := 400) (sh_nx s28) r6 (by omega)
  replace r7 := rf_al (k := 12) (L := 400) (sh_nx s28) r7 (by omega)
  refine tn_put (pc' := 132) (x := 156) fl_HandRing_73 rfl (fun q hq => by cases hq; rfl) (show decode cX9_init 129 = .ok (.putfield 73, 3) by decide +kernel) rfl (sh_at s29 (i := 0) rfl rfl) (hm_nfA _) ?_
  have s30 : hm_sh _ 64 157 _ := sh_wR (a := 64) (j := 11) (v := some (156)) s29
  replace r1 := rf_wR (b := 64) (i := 11) (v := some (156)) r1 (by omega)
  replace r6 := rf_wR (b := 64) (i := 11) (v := some (156)) r6 (by omega)
  replace r7 := rf_wR (b := 64) (i := 11) (v := some (156)) r7 (by omega)
  refine tr_aload_n (pc' := 133) (show decode cX9_init 132 = .ok (.aload_n 0, 1) by decide +kernel) rfl rfl rfl ?_
  refine tr_iconst (pc' := 134) (v := (-1 : Int32)) (show decode cX9_init 133 = .ok (.iconst (-1), 1) by decide +kernel) rfl (by decide) ?_
  refine tp_pI (pc' := 137) fl_HandRing_77 (show decode cX9_init 134 = .ok (.putfield 77, 3) by decide +kernel) rfl (sh_at s30 (i := 0) rfl rfl) rfl ?_
  have s31 : hm_sh _ 64 157 _ := sh_wI (a := 64) (j := 13) (v := (-1 : Int32)) s30
  replace r1 := rf_wI (b := 64) (i := 13) (v := (-1 : Int32)) r1
  replace r6 := rf_wI (b := 64) (i := 13) (v := (-1 : Int32)) r6
  replace r7 := rf_wI (b := 64) (i := 13) (v := (-1 : Int32)) r7
  refine tr_aload_n (pc' := 138) (show decode cX9_init 137 = .ok (.aload_n 0, 1) by decide +kernel) rfl rfl rfl ?_
  refine tr_iconst (pc' := 139) (v := (-1 : Int32)) (show decode cX9_init 138 = .ok (.iconst (-1), 1) by decide +kernel) rfl (by decide) ?_
  refine tp_pI (pc' := 142) fl_HandRing_81 (show decode cX9_init 139 = .ok (.putfield 81, 3) by decide +kernel) rfl (sh_at s31 (i := 0) rfl rfl) rfl ?_
  have s32 : hm_sh _ 64 157 _ := sh_wI (a := 64) (j := 14) (v := (-1 : Int32)) s31
  replace r1 := rf_wI (b := 64) (i := 14) (v := (-1 : Int32)) r1
  replace r6 := rf_wI (b := 64) (i := 14) (v := (-1 : Int32)) r6
  replace r7 := rf_wI (b := 64) (i := 14) (v := (-1 : Int32)) r7
  refine tr_aload_n (pc' := 143) (show decode cX9_init 142 = .ok (.aload_n 0, 1) by decide +kernel) rfl rfl rfl ?_
  refine tr_iconst (pc' := 144) (v := (5 : Int32)) (show decode cX9_init 143 = .ok (.iconst 5, 1) by decide +kernel) rfl (by decide) ?_
  refine tn_int (pc' := 146) (n := 157) (L := 5) (sh_nx s32) (by decide) (by decide +kernel) (Nat.le_of_ble_eq_true rfl) (show decode cX9_init 144 = .ok (.newarray .int, 2) by decide +kernel) rfl (Nat.le_of_ble_eq_true rfl) (Nat.le_of_ble_eq_true rfl) ?_
  have s33 : hm_sh _ 64 158 _ := sh_al (k := 13) (L := 5) (n' := 158) s32 rfl
  replace r1 := rf_al (k := 13) (L := 5) (sh_nx s32) r1 (by omega)
  replace r6 := rf_al (k := 13) (L := 5) (sh_nx s32) r6 (by omega)
  replace r7 := rf_al (k := 13) (L := 5) (sh_nx s32) r7 (by omega)
  refine tn_put (pc' := 149) (x := 157) fl_HandRing_84 rfl (fun q hq => by cases hq; rfl) (show decode cX9_init 146 = .ok (.putfield 84, 3) by decide +kernel) rfl (sh_at s33 (i := 0) rfl rfl) (hm_nfA _) ?_
  have s34 : hm_sh _ 64 158 _ := sh_wR (a := 64) (j := 17) (v := some (157)) s33
  replace r1 := rf_wR (b := 64) (i := 17) (v := some (157)) r1 (by omega)
  replace r6 := rf_wR (b := 64) (i := 17) (v := some (157)) r6 (by omega)
  replace r7 := rf_wR (b := 64) (i := 17) (v := some (157)) r7 (by omega)
  refine tr_aload_n (pc' := 150) (show decode cX9_init 149 = .ok (.aload_n 0, 1) by decide +kernel) rfl rfl rfl ?_
  refine tr_bipush (pc' := 152) (v := (20 : Int32)) (show decode cX9_init 150 = .ok (.bipush 20, 2) by decide +kernel) rfl (by decide) ?_
  refine tn_long (pc' := 154) (n := 158) (L := 20) (sh_nx s34) (by decide) (by decide +kernel) (Nat.le_of_ble_eq_true rfl) (show decode cX9_init 152 = .ok (.newarray .long, 2) by decide +kernel) rfl (Nat.le_of_ble_eq_true rfl) (Nat.le_of_ble_eq_true rfl) ?_
  have s35 : hm_sh _ 64 159 _ := sh_al (k := 14) (L := 20) (n' := 159) s34 rfl
  replace r1 := rf_al (k := 14) (L := 20) (sh_nx s34) r1 (by omega)
  replace r6 := rf_al (k := 14) (L := 20) (sh_nx s34) r6 (by omega)
  replace r7 := rf_al (k := 14) (L := 20) (sh_nx s34) r7 (by omega)
  refine tn_put (pc' := 157) (x := 158) fl_HandRing_88 rfl (fun q hq => by cases hq; rfl) (show decode cX9_init 154 = .ok (.putfield 88, 3) by decide +kernel) rfl (sh_at s35 (i := 0) rfl rfl) (hm_nfA _) ?_
  have s36 : hm_sh _ 64 159 _ := sh_wR (a := 64) (j := 18) (v := some (158)) s35
  replace r1 := rf_wR (b := 64) (i := 18) (v := some (158)) r1 (by omega)
  replace r6 := rf_wR (b := 64) (i := 18) (v := some (158)) r6 (by omega)
  replace r7 := rf_wR (b := 64) (i := 18) (v := some (158)) r7 (by omega)
  refine tr_iconst (pc' := 158) (v := (0 : Int32)) (show decode cX9_init 157 = .ok (.iconst 0, 1) by decide +kernel) rfl (by decide) ?_
  refine tr_istore_n (pc' := 159) (lv' := [some (.ref 64), some (.int (0 : Int32))]) (show decode cX9_init 158 = .ok (.istore_n 1, 1) by decide +kernel) rfl rfl (Nat.le_of_ble_eq_true rfl) rfl rfl ?_
  refine tr_iload_n (pc' := 160) (show decode cX9_init 159 = .ok (.iload_n 1, 1) by decide +kernel) rfl rfl rfl ?_
  refine tr_iconst (pc' := 161) (v := (2 : Int32)) (show decode cX9_init 160 = .ok (.iconst 2, 1) by decide +kernel) rfl (by decide) ?_
  refine tr_icmp_ge_f (tgt := 183) (pc' := 164) (by decide) (show decode cX9_init 161 = .ok (.if_icmp .ge 22, 3) by decide +kernel) (by decide) rfl ?_
  refine tr_aload_n (pc' := 165) (show decode cX9_init 164 = .ok (.aload_n 0, 1) by decide +kernel) rfl rfl rfl ?_
  refine tr_getR (pc' := 168) fl_HandRing_16 (show decode cX9_init 165 = .ok (.getfield 16, 3) by decide +kernel) rfl (sh_at s36 (i := 0) rfl rfl) (rf_of r1) ?_
  refine tr_iload_n (pc' := 169) (show decode cX9_init 168 = .ok (.iload_n 1, 1) by decide +kernel) rfl rfl rfl ?_
  refine tn_newN (pc' := 172) (n := 159) (sh_nx s36) kl_8 tyX8 tyX8_ok df_8 kcl_HandRing_9 kw_in_8 kw_ini_8 (show decode cX9_init 169 = .ok (.new 9, 3) by decide +kernel) rfl (Nat.le_of_ble_eq_true rfl) (Nat.le_of_ble_eq_true rfl) ?_
  have s37 : hm_sh _ 64 160 _ := sh_al (k := 8) (L := 13) (n' := 160) s36 rfl
  replace r1 := rf_al (k := 8) (L := 13) (sh_nx s36) r1 (by omega)
  replace r6 := rf_al (k := 8) (L := 13) (sh_nx s36) r6 (by omega)
  replace r7 := rf_al (k := 8) (L := 13) (sh_nx s36) r7 (by omega)
  refine tr_dup (pc' := 173) (show decode cX9_init 172 = .ok (.dup, 1) by decide +kernel) rfl rfl ?_
  refine tr_callI (pc' := 176) (a := 159) (As := []) (fr1 := fr - 1) okm_X8_init lk_HandRing_11 (show decode cX9_init 173 = .ok (.invokespecial 11, 3) by decide +kernel) rfl (by have := s0.1; omega) rfl rfl (Nat.le_of_ble_eq_true rfl) (by omega) (Nat.le_of_ble_eq_true rfl) (Nat.le_of_ble_eq_true rfl) (ok_X8_init (Λ := fun _ => True) (o := 159) (by omega) _ (sh_last s37 rfl) trivial) ?_
  have s38 : hm_sh _ 64 169 _ := sh_X8 (o := 159) (n' := 169) s37 rfl
  replace r1 := rf_X8 (o := 159) (sh_last s37 rfl) r1 (by omega)
  replace r6 := rf_X8 (o := 159) (sh_last s37 rfl) r6 (by omega)
  replace r7 := rf_X8 (o := 159) (sh_last s37 rfl) r7 (by omega)
  refine tr_aast (pc' := 177) (kd := 17) (t0 := 6) (ci := 8) (by decide) (fun _ => rfl) rfl (by decide) (show decode cX9_init 176 = .ok (.aastore, 1) by decide +kernel) rfl (sh_ar s38 (i := 11) rfl rfl) (sh_at s38 (i := 95) rfl rfl) (by decide) ?_
  simp only [show ((0 : Int32)).toNatClampNeg = 0 from rfl]
  have s39 : hm_sh _ 64 169 _ := sh_wR (a := 75) (j := 0) (v := some (159)) s38
  replace r1 := rf_wR (b := 75) (i := 0) (v := some (159)) r1 (by omega)
  replace r6 := rf_wR (b := 75) (i := 0) (v := some (159)) r6 (by omega)
  replace r7 := rf_wR (b := 75) (i := 0) (v := some (159)) r7 (by omega)
  refine tr_iinc (pc' := 180) (v := (1 : Int32)) (lv' := [some (.ref 64), some (.int (1 : Int32))]) (show decode cX9_init 177 = .ok (.iinc 1 1, 3) by decide +kernel) rfl rfl (by decide) (Nat.le_of_ble_eq_true rfl) rfl rfl ?_
  refine tr_goto (tgt := 159) (show decode cX9_init 180 = .ok (.goto (-21), 3) by decide +kernel) rfl ?_
  refine tr_iload_n (pc' := 160) (show decode cX9_init 159 = .ok (.iload_n 1, 1) by decide +kernel) rfl rfl rfl ?_
  refine tr_iconst (pc' := 161) (v := (2 : Int32)) (show decode cX9_init 160 = .ok (.iconst 2, 1) by decide +kernel) rfl (by decide) ?_
  refine tr_icmp_ge_f (tgt := 183) (pc' := 164) (by decide) (show decode cX9_init 161 = .ok (.if_icmp .ge 22, 3) by decide +kernel) (by decide) rfl ?_
  refine tr_aload_n (pc' := 165) (show decode cX9_init 164 = .ok (.aload_n 0, 1) by decide +kernel) rfl rfl rfl ?_
  refine tr_getR (pc' := 168) fl_HandRing_16 (show decode cX9_init 165 = .ok (.getfield 16, 3) by decide +kernel) rfl (sh_at s39 (i := 0) rfl rfl) (rf_of r1) ?_
  refine tr_iload_n (pc' := 169) (show decode cX9_init 168 = .ok (.iload_n 1, 1) by decide +kernel) rfl rfl rfl ?_
  refine tn_newN (pc' := 172) (n := 169) (sh_nx s39) kl_8 tyX8 tyX8_ok df_8 kcl_HandRing_9 kw_in_8 kw_ini_8 (show decode cX9_init 169 = .ok (.new 9, 3) by decide +kernel) rfl (Nat.le_of_ble_eq_true rfl) (Nat.le_of_ble_eq_true rfl) ?_
  have s40 : hm_sh _ 64 170 _ := sh_al (k := 8) (L := 13) (n' := 170) s39 rfl
  replace r1 := rf_al (k := 8) (L := 13) (sh_nx s39) r1 (by omega)
  replace r6 := rf_al (k := 8) (L := 13) (sh_nx s39) r6 (by omega)
  replace r7 := rf_al (k := 8) (L := 13) (sh_nx s39) r7 (by omega)
  refine tr_dup (pc' := 173) (show decode cX9_init 172 = .ok (.dup, 1) by decide +kernel) rfl rfl ?_
  refine tr_callI (pc' := 176) (a := 169) (As := []) (fr1 := fr - 1) okm_X8_init lk_HandRing_11 (show decode cX9_init 173 = .ok (.invokespecial 11, 3) by decide +kernel) rfl (by have := s0.1; omega) rfl rfl (Nat.le_of_ble_eq_true rfl) (by omega) (Nat.le_of_ble_eq_true rfl) (Nat.le_of_ble_eq_true rfl) (ok_X8_init (Λ := fun _ => True) (o := 169) (by omega) _ (sh_last s40 rfl) trivial) ?_
  have s41 : hm_sh _ 64 179 _ := sh_X8 (o := 169) (n' := 179) s40 rfl
  replace r1 := rf_X8 (o := 169) (sh_last s40 rfl) r1 (by omega)
  replace r6 := rf_X8 (o := 169) (sh_last s40 rfl) r6 (by omega)
  replace r7 := rf_X8 (o := 169) (sh_last s40 rfl) r7 (by omega)
  refine tr_aast (pc' := 177) (kd := 17) (t0 := 6) (ci := 8) (by decide) (fun _ => rfl) rfl (by decide) (show decode cX9_init 176 = .ok (.aastore, 1) by decide +kernel) rfl (sh_ar s41 (i := 11) rfl rfl) (sh_at s41 (i := 105) rfl rfl) (by decide) ?_
  simp only [show ((1 : Int32)).toNatClampNeg = 1 from rfl]
  have s42 : hm_sh _ 64 179 _ := sh_wR (a := 75) (j := 1) (v := some (169)) s41
  replace r1 := rf_wR (b := 75) (i := 1) (v := some (169)) r1 (by omega)
  replace r6 := rf_wR (b := 75) (i := 1) (v := some (169)) r6 (by omega)
  replace r7 := rf_wR (b := 75) (i := 1) (v := some (169)) r7 (by omega)
  refine tr_iinc (pc' := 180) (v := (2 : Int32)) (lv' := [some (.ref 64), some (.int (2 : Int32))]) (show decode cX9_init 177 = .ok (.iinc 1 1, 3) by decide +kernel) rfl rfl (by decide) (Nat.le_of_ble_eq_true rfl) rfl rfl ?_
  refine tr_goto (tgt := 159) (show decode cX9_init 180 = .ok (.goto (-21), 3) by decide +kernel) rfl ?_
  refine tr_iload_n (pc' := 160) (show decode cX9_init 159 = .ok (.iload_n 1, 1) by decide +kernel) rfl rfl rfl ?_
  refine tr_iconst (pc' := 161) (v := (2 : Int32)) (show decode cX9_init 160 = .ok (.iconst 2, 1) by decide +kernel) rfl (by decide) ?_
  refine tr_icmp_ge_t (tgt := 183) (by decide) (show decode cX9_init 161 = .ok (.if_icmp .ge 22, 3) by decide +kernel) (by decide) ?_
  exact tr_vret rfl (show decode cX9_init 183 = .ok (.return_, 1) by decide +kernel) hL
def i_Wc51 (μ : hm_M) : hm_M := hm_wI (hm_wI (hm_wI (hm_wI (hm_wI (hm_wI (hm_wI (hm_wI (hm_wI (hm_wI (hm_wI (hm_wI (hm_wI (hm_wI (hm_wI (hm_wI (μ) 185 ((0 : Int32)).toNatClampNeg (vp_nar .byte (108 : Int32))) 185 ((1 : Int32)).toNatClampNeg (vp_nar .byte (111 : Int32))) 185 ((2 : Int32)).toNatClampNeg (vp_nar .byte (115 : Int32))) 185 ((3 : Int32)).toNatClampNeg (vp_nar .byte (101 : Int32))) 185 ((4 : Int32)).toNatClampNeg (vp_nar .byte (115 : Int32))) 185 ((5 : Int32)).toNatClampNeg (vp_nar .byte (32 : Int32))) 185 ((6 : Int32)).toNatClampNeg (vp_nar .byte (116 : Int32))) 185 ((7 : Int32)).toNatClampNeg (vp_nar .byte (105 : Int32))) 185 ((8 : Int32)).toNatClampNeg (vp_nar .byte (114 : Int32))) 185 ((9 : Int32)).toNatClampNeg (vp_nar .byte (101 : Int32))) 185 ((10 : Int32)).toNatClampNeg (vp_nar .byte (115 : Int32))) 185 ((11 : Int32)).toNatClampNeg (vp_nar .byte (32 : Int32))) 185 ((12 : Int32)).toNatClampNeg (vp_nar .byte (98 : Int32))) 185 ((13 : Int32)).toNatClampNeg (vp_nar .byte (97 : Int32))) 185 ((14 : Int32)).toNatClampNeg (vp_nar .byte (114 : Int32))) 185 ((15 : Int32)).toNatClampNeg (vp_nar .byte (115 : Int32))
theorem sh_i_Wc51 {μ : hm_M} {o n : Nat} {ks : List (Nat × Nat)} (h : hm_sh μ o n ks) : hm_sh (i_Wc51 μ) o n ks := sh_same h rfl
theorem rf_i_Wc51 {μ : hm_M} {a j : Nat} {x : Option Nat} (h : μ.2.2.1 a j = x) : (i_Wc51 μ).2.2.1 a j = x := h
set_option maxRecDepth 100000 in
theorem i_Wc51_T {Λ : hm_M → Prop} {fr kc ks : Nat} {r : Option Value} {μ μ' : hm_M} {lv : List (Option Value)} {st : List Value} (ha : hm_ar μ 185 11 143) (K : hm_T Λ m_X10_init fr kc ks r μ' 141 lv (.ref 185 :: st) (i_Wc51 μ)) : hm_T Λ m_X10_init fr kc ks r μ' 51 lv (.ref 185 :: st) μ := by
  refine tr_dup (pc' := 52) (show decode cX10_init 51 = .ok (.dup, 1) by decide +kernel) rfl rfl ?_
  refine tr_iconst (pc' := 53) (v := (0 : Int32)) (show decode cX10_init 52 = .ok (.iconst 0, 1) by decide +kernel) rfl (by decide) ?_
  refine tr_bipush (pc' := 55) (v := (108 : Int32)) (show decode cX10_init 53 = .ok (.bipush 108, 2) by decide +kernel) rfl (by decide) ?_
  refine tr_bast (pc' := 56) (show decode cX10_init 55 = .ok (.bastore, 1) by decide +kernel) rfl ha (by decide) ?_
  replace ha := ar_wI (b := 185) (j := ((0 : Int32)).toNatClampNeg) (v := vp_nar .byte (108 : Int32)) ha
  refine tr_dup (pc' := 57) (show decode cX10_init 56 = .ok (.dup, 1) by decide +kernel) rfl rfl ?_
  refine tr_iconst (pc' := 58) (v := (1 : Int32)) (show decode cX10_init 57 = .ok (.iconst 1, 1) by decide +kernel) rfl (by decide) ?_
  refine tr_bipush (pc' := 60) (v := (111 : Int32)) (show decode cX10_init 58 = .ok (.bipush 111, 2) by decide +kernel) rfl (by decide) ?_
  refine tr_bast (pc' := 61) (show decode cX10_init 60 = .ok (.bastore, 1) by decide +kernel) rfl ha (by decide) ?_
  replace ha := ar_wI (b := 185) (j := ((1 : Int32)).toNatClampNeg) (v := vp_nar .byte (111 : Int32)) ha
  refine tr_dup (pc' := 62) (show decode cX10_init 61 = .ok (.dup, 1) by decide +kernel) rfl rfl ?_
  refine tr_iconst (pc' := 63) (v := (2 : Int32)) (show decode cX10_init 62 = .ok (.iconst 2, 1) by decide +kernel) rfl (by decide) ?_
  refine tr_bipush (pc' := 65) (v := (115 : Int32)) (show decode cX10_init 63 = .ok (.bipush 115, 2) by decide +kernel) rfl (by decide) ?_
  refine tr_bast (pc' := 66) (show decode cX10_init 65 = .ok (.bastore, 1) by decide +kernel) rfl ha (by decide) ?_
  replace ha := ar_wI (b := 185) (j := ((2 : Int32)).toNatClampNeg) (v := vp_nar .byte (115 : Int32)) ha
  refine tr_dup (pc' := 67) (show decode cX10_init 66 = .ok (.dup, 1) by decide +kernel) rfl rfl ?_
  refine tr_iconst (pc' := 68) (v := (3 : Int32)) (show decode cX10_init 67 = .ok (.iconst 3, 1) by decide +kernel) rfl (by decide) ?_
  refine tr_bipush (pc' := 70) (v := (101 : Int32)) (show decode cX10_init 68 = .ok (.bipush 101, 2) by decide +kernel) rfl (by decide) ?_
  refine tr_bast (pc' := 71) (show decode cX10_init 70 = .ok (.bastore, 1) by decide +kernel) rfl ha (by decide) ?_
  replace ha := ar_wI (b := 185) (j := ((3 : Int32)).toNatClampNeg) (v := vp_nar .byte (101 : Int32)) ha
  refine tr_dup (pc' := 72) (show decode cX10_init 71 = .ok (.dup, 1) by decide +kernel) rfl rfl ?_
  refine tr_iconst (pc' := 73) (v := (4 : Int32)) (show decode cX10_init 72 = .ok (.iconst 4, 1) by decide +kernel) rfl (by decide) ?_
  refine tr_bipush (pc' := 75) (v := (115 : Int32)) (show decode cX10_init 73 = .ok (.bipush 115, 2) by decide +kernel) rfl (by decide) ?_
  refine tr_bast (pc' := 76) (show decode cX10_init 75 = .ok (.bastore, 1) by decide +kernel) rfl ha (by decide) ?_
  replace ha := ar_wI (b := 185) (j := ((4 : Int32)).toNatClampNeg) (v := vp_nar .byte (115 : Int32)) ha
  refine tr_dup (pc' := 77) (show decode cX10_init 76 = .ok (.dup, 1) by decide +kernel) rfl rfl ?_
  refine tr_iconst (pc' := 78) (v := (5 : Int32)) (show decode cX10_init 77 = .ok (.iconst 5, 1) by decide +kernel) rfl (by decide) ?_
  refine tr_bipush (pc' := 80) (v := (32 : Int32)) (show decode cX10_init 78 = .ok (.bipush 32, 2) by decide +kernel) rfl (by decide) ?_
  refine tr_bast (pc' := 81) (show decode cX10_init 80 = .ok (.bastore, 1) by decide +kernel) rfl ha (by decide) ?_
  replace ha := ar_wI (b := 185) (j := ((5 : Int32)).toNatClampNeg) (v := vp_nar .byte (32 : Int32)) ha
  refine tr_dup (pc' := 82) (show decode cX10_init 81 = .ok (.dup, 1) by decide +kernel) rfl rfl ?_
  refine tr_bipush (pc' := 84) (v := (6 : Int32)) (show decode cX10_init 82 = .ok (.bipush 6, 2) by decide +kernel) rfl (by decide) ?_
  refine tr_bipush (pc' := 86) (v := (116 : Int32)) (show decode cX10_init 84 = .ok (.bipush 116, 2) by decide +kernel) rfl (by decide) ?_
  refine tr_bast (pc' := 87) (show decode cX10_init 86 = .ok (.bastore, 1) by decide +kernel) rfl ha (by decide) ?_
  replace ha := ar_wI (b := 185) (j := ((6 : Int32)).toNatClampNeg) (v := vp_nar .byte (116 : Int32)) ha
  refine tr_dup (pc' := 88) (show decode cX10_init 87 = .ok (.dup, 1) by decide +kernel) rfl rfl ?_
  refine tr_bipush (pc' := 90) (v := (7 : Int32)) (show decode cX10_init 88 = .ok (.bipush 7, 2) by decide +kernel) rfl (by decide) ?_
  refine tr_bipush (pc' := 92) (v := (105 : Int32)) (show decode cX10_init 90 = .ok (.bipush 105, 2) by decide +kernel) rfl (by decide) ?_
  refine tr_bast (pc' := 93) (show decode cX10_init 92 = .ok (.bastore, 1) by decide +kernel) rfl ha (by decide) ?_
  replace ha := ar_wI (b := 185) (j := ((7 : Int32)).toNatClampNeg) (v := vp_nar .byte (105 : Int32)) ha
  refine tr_dup (pc' := 94) (show decode cX10_init 93 = .ok (.dup, 1) by decide +kernel) rfl rfl ?_
  refine tr_bipush (pc' := 96) (v := (8 : Int32)) (show decode cX10_init 94 = .ok (.bipush 8, 2) by decide +kernel) rfl (by decide) ?_
  refine tr_bipush (pc' := 98) (v := (114 : Int32)) (show decode cX10_init 96 = .ok (.bipush 114, 2) by decide +kernel) rfl (by decide) ?_
  refine tr_bast (pc' := 99) (show decode cX10_init 98 = .ok (.bastore, 1) by decide +kernel) rfl ha (by decide) ?_
  replace ha := ar_wI (b := 185) (j := ((8 : Int32)).toNatClampNeg) (v := vp_nar .byte (114 : Int32)) ha
  refine tr_dup (pc' := 100) (show decode cX10_init 99 = .ok (.dup, 1) by decide +kernel) rfl rfl ?_
  refine tr_bipush (pc' := 102) (v := (9 : Int32)) (show decode cX10_init 100 = .ok (.bipush 9, 2) by decide +kernel) rfl (by decide) ?_
  refine tr_bipush (pc' := 104) (v := (101 : Int32)) (show decode cX10_init 102 = .ok (.bipush 101, 2) by decide +kernel) rfl (by decide) ?_
  refine tr_bast (pc' := 105) (show decode cX10_init 104 = .ok (.bastore, 1) by decide +kernel) rfl ha (by decide) ?_
  replace ha := ar_wI (b := 185) (j := ((9 : Int32)).toNatClampNeg) (v := vp_nar .byte (101 : Int32)) ha
  refine tr_dup (pc' := 106) (show decode cX10_init 105 = .ok (.dup, 1) by decide +kernel) rfl rfl ?_
  refine tr_bipush (pc' := 108) (v := (10 : Int32)) (show decode cX10_init 106 = .ok (.bipush 10, 2) by decide +kernel) rfl (by decide) ?_
  refine tr_bipush (pc' := 110) (v := (115 : Int32)) (show decode cX10_init 108 = .ok (.bipush 115, 2) by decide +kernel) rfl (by decide) ?_
  refine tr_bast (pc' := 111) (show decode cX10_init 110 = .ok (.bastore, 1) by decide +kernel) rfl ha (by decide) ?_
  replace ha := ar_wI (b := 185) (j := ((10 : Int32)).toNatClampNeg) (v := vp_nar .byte (115 : Int32)) ha
  refine tr_dup (pc' := 112) (show decode cX10_init 111 = .ok (.dup, 1) by decide +kernel) rfl rfl ?_
  refine tr_bipush (pc' := 114) (v := (11 : Int32)) (show decode cX10_init 112 = .ok (.bipush 11, 2) by decide +kernel) rfl (by decide) ?_
  refine tr_bipush (pc' := 116) (v := (32 : Int32)) (show decode cX10_init 114 = .ok (.bipush 32, 2) by decide +kernel) rfl (by decide) ?_
  refine tr_bast (pc' := 117) (show decode cX10_init 116 = .ok (.bastore, 1) by decide +kernel) rfl ha (by decide) ?_
  replace ha := ar_wI (b := 185) (j := ((11 : Int32)).toNatClampNeg) (v := vp_nar .byte (32 : Int32)) ha
  refine tr_dup (pc' := 118) (show decode cX10_init 117 = .ok (.dup, 1) by decide +kernel) rfl rfl ?_
  refine tr_bipush (pc' := 120) (v := (12 : Int32)) (show decode cX10_init 118 = .ok (.bipush 12, 2) by decide +kernel) rfl (by decide) ?_
  refine tr_bipush (pc' := 122) (v := (98 : Int32)) (show decode cX10_init 120 = .ok (.bipush 98, 2) by decide +kernel) rfl (by decide) ?_
  refine tr_bast (pc' := 123) (show decode cX10_init 122 = .ok (.bastore, 1) by decide +kernel) rfl ha (by decide) ?_
  replace ha := ar_wI (b := 185) (j := ((12 : Int32)).toNatClampNeg) (v := vp_nar .byte (98 : Int32)) ha
  refine tr_dup (pc' := 124) (show decode cX10_init 123 = .ok (.dup, 1) by decide +kernel) rfl rfl ?_
  refine tr_bipush (pc' := 126) (v := (13 : Int32)) (show decode cX10_init 124 = .ok (.bipush 13, 2) by decide +kernel) rfl (by decide) ?_
  refine tr_bipush (pc' := 128) (v := (97 : Int32)) (show decode cX10_init 126 = .ok (.bipush 97, 2) by decide +kernel) rfl (by decide) ?_
  refine tr_bast (pc' := 129) (show decode cX10_init 128 = .ok (.bastore, 1) by decide +kernel) rfl ha (by decide) ?_
  replace ha := ar_wI (b := 185) (j := ((13 : Int32)).toNatClampNeg) (v := vp_nar .byte (97 : Int32)) ha
  refine tr_dup (pc' := 130) (show decode cX10_init 129 = .ok (.dup, 1) by decide +kernel) rfl rfl ?_
  refine tr_bipush (pc' := 132) (v := (14 : Int32)) (show decode cX10_init 130 = .ok (.bipush 14, 2) by decide +kernel) rfl (by decide) ?_
  refine tr_bipush (pc' := 134) (v := (114 : Int32)) (show decode cX10_init 132 = .ok (.bipush 114, 2) by decide +kernel) rfl (by decide) ?_
  refine tr_bast (pc' := 135) (show decode cX10_init 134 = .ok (.bastore, 1) by decide +kernel) rfl ha (by decide) ?_
  replace ha := ar_wI (b := 185) (j := ((14 : Int32)).toNatClampNeg) (v := vp_nar .byte (114 : Int32)) ha
  refine tr_dup (pc' := 136) (show decode cX10_init 135 = .ok (.dup, 1) by decide +kernel) rfl rfl ?_
  refine tr_bipush (pc' := 138) (v := (15 : Int32)) (show decode cX10_init 136 = .ok (.bipush 15, 2) by decide +kernel) rfl (by decide) ?_
  refine tr_bipush (pc' := 140) (v := (115 : Int32)) (show decode cX10_init 138 = .ok (.bipush 115, 2) by decide +kernel) rfl (by decide) ?_
  refine tr_bast (pc' := 141) (show decode cX10_init 140 = .ok (.bastore, 1) by decide +kernel) rfl ha (by decide) ?_
  replace ha := ar_wI (b := 185) (j := ((15 : Int32)).toNatClampNeg) (v := vp_nar .byte (115 : Int32)) ha
  exact K
def i_Wc141 (μ : hm_M) : hm_M := hm_wI (hm_wI (hm_wI (hm_wI (hm_wI (hm_wI (hm_wI (hm_wI (hm_wI (hm_wI (hm_wI (hm_wI (hm_wI (hm_wI (hm_wI (hm_wI (μ) 185 ((16 : Int32)).toNatClampNeg (vp_nar .byte (32 : Int32))) 185 ((17 : Int32)).toNatClampNeg (vp_nar .byte (105 : Int32))) 185 ((18 : Int32)).toNatClampNeg (vp_nar .byte (102 : Int32))) 185 ((19 : Int32)).toNatClampNeg (vp_nar .byte (32 : Int32))) 185 ((20 : Int32)).toNatClampNeg (vp_nar .byte (111 : Int32))) 185 ((21 : Int32)).toNatClampNeg (vp_nar .byte (114 : Int32))) 185 ((22 : Int32)).toNatClampNeg (vp_nar .byte (32 : Int32))) 185 ((23 : Int32)).toNatClampNeg (vp_nar .byte (97 : Int32))) 185 ((24 : Int32)).toNatClampNeg (vp_nar .byte (110 : Int32))) 185 ((25 : Int32)).toNatClampNeg (vp_nar .byte (100 : Int32))) 185 ((26 : Int32)).toNatClampNeg (vp_nar .byte (32 : Int32))) 185 ((27 : Int32)).toNatClampNeg (vp_nar .byte (110 : Int32))) 185 ((28 : Int32)).toNatClampNeg (vp_nar .byte (111 : Int32))) 185 ((29 : Int32)).toNatClampNeg (vp_nar .byte (116 : Int32))) 185 ((30 : Int32)).toNatClampNeg (vp_nar .byte (32 : Int32))) 185 ((31 : Int32)).toNatClampNeg (vp_nar .byte (111 : Int32))
theorem sh_i_Wc141 {μ : hm_M} {o n : Nat} {ks : List (Nat × Nat)} (h : hm_sh μ o n ks) : hm_sh (i_Wc141 μ) o n ks := sh_same h rfl
theorem rf_i_Wc141 {μ : hm_M} {a j : Nat} {x : Option Nat} (h : μ.2.2.1 a j = x) : (i_Wc141 μ).2.2.1 a j = x := h
set_option maxRecDepth 100000 in
theorem i_Wc141_T {Λ : hm_M → Prop} {fr kc ks : Nat} {r : Option Value} {μ μ' : hm_M} {lv : List (Option Value)} {st : List Value} (ha : hm_ar μ 185 11 143) (K : hm_T Λ m_X10_init fr kc ks r μ' 237 lv (.ref 185 :: st) (i_Wc141 μ)) : hm_T Λ m_X10_init fr kc ks r μ' 141 lv (.ref 185 :: st) μ := by
  refine tr_dup (pc' := 142) (show decode cX10_init 141 = .ok (.dup, 1) by decide +kernel) rfl rfl ?_
  refine tr_bipush (pc' := 144) (v := (16 : Int32)) (show decode cX10_init 142 = .ok (.bipush 16, 2) by decide +kernel) rfl (by decide) ?_
  refine tr_bipush (pc' := 146) (v := (32 : Int32)) (show decode cX10_init 144 = .ok (.bipush 32, 2) by decide +kernel) rfl (by decide) ?_
  refine tr_bast (pc' := 147) (show decode cX10_init 146 = .ok (.bastore, 1) by decide +kernel) rfl ha (by decide) ?_
  replace ha := ar_wI (b := 185) (j := ((16 : Int32)).toNatClampNeg) (v := vp_nar .byte (32 : Int32)) ha
  refine tr_dup (pc' := 148) (show decode cX10_init 147 = .ok (.dup, 1) by decide +kernel) rfl rfl ?_
  refine tr_bipush (pc' := 150) (v := (17 : Int32)) (show decode cX10_init 148 = .ok (.bipush 17, 2) by decide +kernel) rfl (by decide) ?_
  refine tr_bipush (pc' := 152) (v := (105 : Int32)) (show decode cX10_init 150 = .ok (.bipush 105, 2) by decide +kernel) rfl (by decide) ?_
  refine tr_bast (pc' := 153) (show decode cX10_init 152 = .ok (.bastore, 1) by decide +kernel) rfl ha (by decide) ?_
  replace ha := ar_wI (b := 185) (j := ((17 : Int32)).toNatClampNeg) (v := vp_nar .byte (105 : Int32)) ha
  refine tr_dup (pc' := 154) (show decode cX10_init 153 = .ok (.dup, 1) by decide +kernel) rfl rfl ?_
  refine tr_bipush (pc' := 156) (v := (18 : Int32)) (show decode cX10_init 154 = .ok (.bipush 18, 2) by decide +kernel) rfl (by decide) ?_
  refine tr_bipush (pc' := 158) (v := (102 : Int32)) (show decode cX10_init 156 = .ok (.bipush 102, 2) by decide +kernel) rfl (by decide) ?_
  refine tr_bast (pc' := 159) (show decode cX10_init 158 = .ok (.bastore, 1) by decide +kernel) rfl ha (by decide) ?_
  replace ha := ar_wI (b := 185) (j := ((18 : Int32)).toNatClampNeg) (v := vp_nar .byte (102 : Int32)) ha
  refine tr_dup (pc' := 160) (show decode cX10_init 159 = .ok (.dup, 1) by decide +kernel) rfl rfl ?_
  refine tr_bipush (pc' := 162) (v := (19 : Int32)) (show decode cX10_init 160 = .ok (.bipush 19, 2) by decide +kernel) rfl (by decide) ?_
  refine tr_bipush (pc' := 164) (v := (32 : Int32)) (show decode cX10_init 162 = .ok (.bipush 32, 2) by decide +kernel) rfl (by decide) ?_
  refine tr_bast (pc' := 165) (show decode cX10_init 164 = .ok (.bastore, 1) by decide +kernel) rfl ha (by decide) ?_
  replace ha := ar_wI (b := 185) (j := ((19 : Int32)).toNatClampNeg) (v := vp_nar .byte (32 : Int32)) ha
  refine tr_dup (pc' := 166) (show decode cX10_init 165 = .ok (.dup, 1) by decide +kernel) rfl rfl ?_
  refine tr_bipush (pc' := 168) (v := (20 : Int32)) (show decode cX10_init 166 = .ok (.bipush 20, 2) by decide +kernel) rfl (by decide) ?_
  refine tr_bipush (pc' := 170) (v := (111 : Int32)) (show decode cX10_init 168 = .ok (.bipush 111, 2) by decide +kernel) rfl (by decide) ?_
  refine tr_bast (pc' := 171) (show decode cX10_init 170 = .ok (.bastore, 1) by decide +kernel) rfl ha (by decide) ?_
  replace ha := ar_wI (b := 185) (j := ((20 : Int32)).toNatClampNeg) (v := vp_nar .byte (111 : Int32)) ha
  refine tr_dup (pc' := 172) (show decode cX10_init 171 = .ok (.dup, 1) by decide +kernel) rfl rfl ?_
  refine tr_bipush (pc' := 174) (v := (21 : Int32)) (show decode cX10_init 172 = .ok (.bipush 21, 2) by decide +kernel) rfl (by decide) ?_
  refine tr_bipush (pc' := 176) (v := (114 : Int32)) (show decode cX10_init 174 = .ok (.bipush 114, 2) by decide +kernel) rfl (by decide) ?_
  refine tr_bast (pc' := 177) (show decode cX10_init 176 = .ok (.bastore, 1) by decide +kernel) rfl ha (by decide) ?_
  replace ha := ar_wI (b := 185) (j := ((21 : Int32)).toNatClampNeg) (v := vp_nar .byte (114 : Int32)) ha
  refine tr_dup (pc' := 178) (show decode cX10_init 177 = .ok (.dup, 1) by decide +kernel) rfl rfl ?_
  refine tr_bipush (pc' := 180) (v := (22 : Int32)) (show decode cX10_init 178 = .ok (.bipush 22, 2) by decide +kernel) rfl (by decide) ?_
  refine tr_bipush (pc' := 182) (v := (32 : Int32)) (show decode cX10_init 180 = .ok (.bipush 32, 2) by decide +kernel) rfl (by decide) ?_
  refine tr_bast (pc' := 183) (show decode cX10_init 182 = .ok (.bastore, 1) by decide +kernel) rfl ha (by decide) ?_
  replace ha := ar_wI (b := 185) (j := ((22 : Int32)).toNatClampNeg) (v := vp_nar .byte (32 : Int32)) ha
  refine tr_dup (pc' := 184) (show decode cX10_init 183 = .ok (.dup, 1) by decide +kernel) rfl rfl ?_
  refine tr_bipush (pc' := 186) (v := (23 : Int32)) (show decode cX10_init 184 = .ok (.bipush 23, 2) by decide +kernel) rfl (by decide) ?_
  refine tr_bipush (pc' := 188) (v := (97 : Int32)) (show decode cX10_init 186 = .ok (.bipush 97, 2) by decide +kernel) rfl (by decide) ?_
  refine tr_bast (pc' := 189) (show decode cX10_init 188 = .ok (.bastore, 1) by decide +kernel) rfl ha (by decide) ?_
  replace ha := ar_wI (b := 185) (j := ((23 : Int32)).toNatClampNeg) (v := vp_nar .byte (97 : Int32)) ha
  refine tr_dup (pc' := 190) (show decode cX10_init 189 = .ok (.dup, 1) by decide +kernel) rfl rfl ?_
  refine tr_bipush (pc' := 192) (v := (24 : Int32)) (show decode cX10_init 190 = .ok (.bipush 24, 2) by decide +kernel) rfl (by decide) ?_
  refine tr_bipush (pc' := 194) (v := (110 : Int32)) (show decode cX10_init 192 = .ok (.bipush 110, 2) by decide +kernel) rfl (by decide) ?_
  refine tr_bast (pc' := 195) (show decode cX10_init 194 = .ok (.bastore, 1) by decide +kernel) rfl ha (by decide) ?_
  replace ha := ar_wI (b := 185) (j := ((24 : Int32)).toNatClampNeg) (v := vp_nar .byte (110 : Int32)) ha
  refine tr_dup (pc' := 196) (show decode cX10_init 195 = .ok (.dup, 1) by decide +kernel) rfl rfl ?_
  refine tr_bipush (pc' := 198) (v := (25 : Int32)) (show decode cX10_init 196 = .ok (.bipush 25, 2) by decide +kernel) rfl (by decide) ?_
  refine tr_bipush (pc' := 200) (v := (100 : Int32)) (show decode cX10_init 198 = .ok (.bipush 100, 2) by decide +kernel) rfl (by decide) ?_
  refine tr_bast (pc' := 201) (show decode cX10_init 200 = .ok (.bastore, 1) by decide +kernel) rfl ha (by decide) ?_
  replace ha := ar_wI (b := 185) (j := ((25 : Int32)).toNatClampNeg) (v := vp_nar .byte (100 : Int32)) ha
  refine tr_dup (pc' := 202) (show decode cX10_init 201 = .ok (.dup, 1) by decide +kernel) rfl rfl ?_
  refine tr_bipush (pc' := 204) (v := (26 : Int32)) (show decode cX10_init 202 = .ok (.bipush 26, 2) by decide +kernel) rfl (by decide) ?_
  refine tr_bipush (pc' := 206) (v := (32 : Int32)) (show decode cX10_init 204 = .ok (.bipush 32, 2) by decide +kernel) rfl (by decide) ?_
  refine tr_bast (pc' := 207) (show decode cX10_init 206 = .ok (.bastore, 1) by decide +kernel) rfl ha (by decide) ?_
  replace ha := ar_wI (b := 185) (j := ((26 : Int32)).toNatClampNeg) (v := vp_nar .byte (32 : Int32)) ha
  refine tr_dup (pc' := 208) (show decode cX10_init 207 = .ok (.dup, 1) by decide +kernel) rfl rfl ?_
  refine tr_bipush (pc' := 210) (v := (27 : Int32)) (show decode cX10_init 208 = .ok (.bipush 27, 2) by decide +kernel) rfl (by decide) ?_
  refine tr_bipush (pc' := 212) (v := (110 : Int32)) (show decode cX10_init 210 = .ok (.bipush 110, 2) by decide +kernel) rfl (by decide) ?_
  refine tr_bast (pc' := 213) (show decode cX10_init 212 = .ok (.bastore, 1) by decide +kernel) rfl ha (by decide) ?_
  replace ha := ar_wI (b := 185) (j := ((27 : Int32)).toNatClampNeg) (v := vp_nar .byte (110 : Int32)) ha
  refine tr_dup (pc' := 214) (show decode cX10_init 213 = .ok (.dup, 1) by decide +kernel) rfl rfl ?_
  refine tr_bipush (pc' := 216) (v := (28 : Int32)) (show decode cX10_init 214 = .ok (.bipush 28, 2) by decide +kernel) rfl (by decide) ?_
  refine tr_bipush (pc' := 218) (v := (111 : Int32)) (show decode cX10_init 216 = .ok (.bipush 111, 2) by decide +kernel) rfl (by decide) ?_
  refine tr_bast (pc' := 219) (show decode cX10_init 218 = .ok (.bastore, 1) by decide +kernel) rfl ha (by decide) ?_
  replace ha := ar_wI (b := 185) (j := ((28 : Int32)).toNatClampNeg) (v := vp_nar .byte (111 : Int32)) ha
  refine tr_dup (pc' := 220) (show decode cX10_init 219 = .ok (.dup, 1) by decide +kernel) rfl rfl ?_
  refine tr_bipush (pc' := 222) (v := (29 : Int32)) (show decode cX10_init 220 = .ok (.bipush 29, 2) by decide +kernel) rfl (by decide) ?_
  refine tr_bipush (pc' := 224) (v := (116 : Int32)) (show decode cX10_init 222 = .ok (.bipush 116, 2) by decide +kernel) rfl (by decide) ?_
  refine tr_bast (pc' := 225) (show decode cX10_init 224 = .ok (.bastore, 1) by decide +kernel) rfl ha (by decide) ?_
  replace ha := ar_wI (b := 185) (j := ((29 : Int32)).toNatClampNeg) (v := vp_nar .byte (116 : Int32)) ha
  refine tr_dup (pc' := 226) (show decode cX10_init 225 = .ok (.dup, 1) by decide +kernel) rfl rfl ?_
  refine tr_bipush (pc' := 228) (v := (30 : Int32)) (show decode cX10_init 226 = .ok (.bipush 30, 2) by decide +kernel) rfl (by decide) ?_
  refine tr_bipush (pc' := 230) (v := (32 : Int32)) (show decode cX10_init 228 = .ok (.bipush 32, 2) by decide +kernel) rfl (by decide) ?_
  refine tr_bast (pc' := 231) (show decode cX10_init 230 = .ok (.bastore, 1) by decide +kernel) rfl ha (by decide) ?_
  replace ha := ar_wI (b := 185) (j := ((30 : Int32)).toNatClampNeg) (v := vp_nar .byte (32 : Int32)) ha
  refine tr_dup (pc' := 232) (show decode cX10_init 231 = .ok (.dup, 1) by decide +kernel) rfl rfl ?_
  refine tr_bipush (pc' := 234) (v := (31 : Int32)) (show decode cX10_init 232 = .ok (.bipush 31, 2) by decide +kernel) rfl (by decide) ?_
  refine tr_bipush (pc' := 236) (v := (111 : Int32)) (show decode cX10_init 234 = .ok (.bipush 111, 2) by decide +kernel) rfl (by decide) ?_
  refine tr_bast (pc' := 237) (show decode cX10_init 236 = .ok (.bastore, 1) by decide +kernel) rfl ha (by decide) ?_
  replace ha := ar_wI (b := 185) (j := ((31 : Int32)).toNatClampNeg) (v := vp_nar .byte (111 : Int32)) ha
  exact K
def i_Wc237 (μ : hm_M) : hm_M := hm_wI (hm_wI (hm_wI (hm_wI (hm_wI (hm_wI (hm_wI (hm_wI (hm_wI (hm_wI (hm_wI (hm_wI (hm_wI (hm_wI (hm_wI (hm_wI (μ) 185 ((32 : Int32)).toNatClampNeg (vp_nar .byte (110 : Int32))) 185 ((33 : Int32)).toNatClampNeg (vp_nar .byte (101 : Int32))) 185 ((34 : Int32)).toNatClampNeg (vp_nar .byte (32 : Int32))) 185 ((35 : Int32)).toNatClampNeg (vp_nar .byte (111 : Int32))) 185 ((36 : Int32)).toNatClampNeg (vp_nar .byte (116 : Int32))) 185 ((37 : Int32)).toNatClampNeg (vp_nar .byte (104 : Int32))) 185 ((38 : Int32)).toNatClampNeg (vp_nar .byte (101 : Int32))) 185 ((39 : Int32)).toNatClampNeg (vp_nar .byte (114 : Int32))) 185 ((40 : Int32)).toNatClampNeg (vp_nar .byte (32 : Int32))) 185 ((41 : Int32)).toNatClampNeg (vp_nar .byte (107 : Int32))) 185 ((42 : Int32)).toNatClampNeg (vp_nar .byte (105 : Int32))) 185 ((43 : Int32)).toNatClampNeg (vp_nar .byte (110 : Int32))) 185 ((44 : Int32)).toNatClampNeg (vp_nar .byte (100 : Int32))) 185 ((45 : Int32)).toNatClampNeg (vp_nar .byte (32 : Int32))) 185 ((46 : Int32)).toNatClampNeg (vp_nar .byte (107 : Int32))) 185 ((47 : Int32)).toNatClampNeg (vp_nar .byte (105 : Int32))
theorem sh_i_Wc237 {μ : hm_M} {o n : Nat} {ks : List (Nat × Nat)} (h : hm_sh μ o n ks) : hm_sh (i_Wc237 μ) o n ks := sh_same h rfl
theorem rf_i_Wc237 {μ : hm_M} {a j : Nat} {x : Option Nat} (h : μ.2.2.1 a j = x) : (i_Wc237 μ).2.2.1 a j = x := h
set_option maxRecDepth 100000 in
theorem i_Wc237_T {Λ : hm_M → Prop} {fr kc ks : Nat} {r : Option Value} {μ μ' : hm_M} {lv : List (Option Value)} {st : List Value} (ha : hm_ar μ 185 11 143) (K : hm_T Λ m_X10_init fr kc ks r μ' 333 lv (.ref 185 :: st) (i_Wc237 μ)) : hm_T Λ m_X10_init fr kc ks r μ' 237 lv (.ref 185 :: st) μ := by
  refine tr_dup (pc' := 238) (show decode cX10_init 237 = .ok (.dup, 1) by decide +kernel) rfl rfl ?_
  refine tr_bipush (pc' := 240) (v := (32 : Int32)) (show decode cX10_init 238 = .ok (.bipush 32, 2) by decide +kernel) rfl (by decide) ?_
  refine tr_bipush (pc' := 242) (v := (110 : Int32)) (show decode cX10_init 240 = .ok (.bipush 110, 2) by decide +kernel) rfl (by decide) ?_
  refine tr_bast (pc' := 243) (show decode cX10_init 242 = .ok (.bastore, 1) by decide +kernel) rfl ha (by decide) ?_
  replace ha := ar_wI (b := 185) (j := ((32 : Int32)).toNatClampNeg) (v := vp_nar .byte (110 : Int32)) ha
  refine tr_dup (pc' := 244) (show decode cX10_init 243 = .ok (.dup, 1) by decide +kernel) rfl rfl ?_
  refine tr_bipush (pc' := 246) (v := (33 : Int32)) (show decode cX10_init 244 = .ok (.bipush 33, 2) by decide +kernel) rfl (by decide) ?_
  refine tr_bipush (pc' := 248) (v := (101 : Int32)) (show decode cX10_init 246 = .ok (.bipush 101, 2) by decide +kernel) rfl (by decide) ?_
  refine tr_bast (pc' := 249) (show decode cX10_init 248 = .ok (.bastore, 1) by decide +kernel) rfl ha (by decide) ?_
  replace ha := ar_wI (b := 185) (j := ((33 : Int32)).toNatClampNeg) (v := vp_nar .byte (101 : Int32)) ha
  refine tr_dup (pc' := 250) (show decode cX10_init 249 = .ok (.dup, 1) by decide +kernel) rfl rfl ?_
  refine tr_bipush (pc' := 252) (v := (34 : Int32)) (show decode cX10_init 250 = .ok (.bipush 34, 2) by decide +kernel) rfl (by decide) ?_
  refine tr_bipush (pc' := 254) (v := (32 : Int32)) (show decode cX10_init 252 = .ok (.bipush 32, 2) by decide +kernel) rfl (by decide) ?_
  refine tr_bast (pc' := 255) (show decode cX10_init 254 = .ok (.bastore, 1) by decide +kernel) rfl ha (by decide) ?_
  replace ha := ar_wI (b := 185) (j := ((34 : Int32)).toNatClampNeg) (v := vp_nar .byte (32 : Int32)) ha
  refine tr_dup (pc' := 256) (show decode cX10_init 255 = .ok (.dup, 1) by decide +kernel) rfl rfl ?_
  refine tr_bipush (pc' := 258) (v := (35 : Int32)) (show decode cX10_init 256 = .ok (.bipush 35, 2) by decide +kernel) rfl (by decide) ?_
  refine tr_bipush (pc' := 260) (v := (111 : Int32)) (show decode cX10_init 258 = .ok (.bipush 111, 2) by decide +kernel) rfl (by decide) ?_
  refine tr_bast (pc' := 261) (show decode cX10_init 260 = .ok (.bastore, 1) by decide +kernel) rfl ha (by decide) ?_
  replace ha := ar_wI (b := 185) (j := ((35 : Int32)).toNatClampNeg) (v := vp_nar .byte (111 : Int32)) ha
  refine tr_dup (pc' := 262) (show decode cX10_init 261 = .ok (.dup, 1) by decide +kernel) rfl rfl ?_
  refine tr_bipush (pc' := 264) (v := (36 : Int32)) (show decode cX10_init 262 = .ok (.bipush 36, 2) by decide +kernel) rfl (by decide) ?_
  refine tr_bipush (pc' := 266) (v := (116 : Int32)) (show decode cX10_init 264 = .ok (.bipush 116, 2) by decide +kernel) rfl (by decide) ?_
  refine tr_bast (pc' := 267) (show decode cX10_init 266 = .ok (.bastore, 1) by decide +kernel) rfl ha (by decide) ?_
  replace ha := ar_wI (b := 185) (j := ((36 : Int32)).toNatClampNeg) (v := vp_nar .byte (116 : Int32)) ha
  refine tr_dup (pc' := 268) (show decode cX10_init 267 = .ok (.dup, 1) by decide +kernel) rfl rfl ?_
  refine tr_bipush (pc' := 270) (v := (37 : Int32)) (show decode cX10_init 268 = .ok (.bipush 37, 2) by decide +kernel) rfl (by decide) ?_
  refine tr_bipush (pc' := 272) (v := (104 : Int32)) (show decode cX10_init 270 = .ok (.bipush 104, 2) by decide +kernel) rfl (by decide) ?_
  refine tr_bast (pc' := 273) (show decode cX10_init 272 = .ok (.bastore, 1) by decide +kernel) rfl ha (by decide) ?_
  replace ha := ar_wI (b := 185) (j := ((37 : Int32)).toNatClampNeg) (v := vp_nar .byte (104 : Int32)) ha
  refine tr_dup (pc' := 274) (show decode cX10_init 273 = .ok (.dup, 1) by decide +kernel) rfl rfl ?_
  refine tr_bipush (pc' := 276) (v := (38 : Int32)) (show decode cX10_init 274 = .ok (.bipush 38, 2) by decide +kernel) rfl (by decide) ?_
  refine tr_bipush (pc' := 278) (v := (101 : Int32)) (show decode cX10_init 276 = .ok (.bipush 101, 2) by decide +kernel) rfl (by decide) ?_
  refine tr_bast (pc' := 279) (show decode cX10_init 278 = .ok (.bastore, 1) by decide +kernel) rfl ha (by decide) ?_
  replace ha := ar_wI (b := 185) (j := ((38 : Int32)).toNatClampNeg) (v := vp_nar .byte (101 : Int32)) ha
  refine tr_dup (pc' := 280) (show decode cX10_init 279 = .ok (.dup, 1) by decide +kernel) rfl rfl ?_
  refine tr_bipush (pc' := 282) (v := (39 : Int32)) (show decode cX10_init 280 = .ok (.bipush 39, 2) by decide +kernel) rfl (by decide) ?_
  refine tr_bipush (pc' := 284) (v := (114 : Int32)) (show decode cX10_init 282 = .ok (.bipush 114, 2) by decide +kernel) rfl (by decide) ?_
  refine tr_bast (pc' := 285) (show decode cX10_init 284 = .ok (.bastore, 1) by decide +kernel) rfl ha (by decide) ?_
  replace ha := ar_wI (b := 185) (j := ((39 : Int32)).toNatClampNeg) (v := vp_nar .byte (114 : Int32)) ha
  refine tr_dup (pc' := 286) (show decode cX10_init 285 = .ok (.dup, 1) by decide +kernel) rfl rfl ?_
  refine tr_bipush (pc' := 288) (v := (40 : Int32)) (show decode cX10_init 286 = .ok (.bipush 40, 2) by decide +kernel) rfl (by decide) ?_
  refine tr_bipush (pc' := 290) (v := (32 : Int32)) (show decode cX10_init 288 = .ok (.bipush 32, 2) by decide +kernel) rfl (by decide) ?_
  refine tr_bast (pc' := 291) (show decode cX10_init 290 = .ok (.bastore, 1) by decide +kernel) rfl ha (by decide) ?_
  replace ha := ar_wI (b := 185) (j := ((40 : Int32)).toNatClampNeg) (v := vp_nar .byte (32 : Int32)) ha
  refine tr_dup (pc' := 292) (show decode cX10_init 291 = .ok (.dup, 1) by decide +kernel) rfl rfl ?_
  refine tr_bipush (pc' := 294) (v := (41 : Int32)) (show decode cX10_init 292 = .ok (.bipush 41, 2) by decide +kernel) rfl (by decide) ?_
  refine tr_bipush (pc' := 296) (v := (107 : Int32)) (show decode cX10_init 294 = .ok (.bipush 107, 2) by decide +kernel) rfl (by decide) ?_
  refine tr_bast (pc' := 297) (show decode cX10_init 296 = .ok (.bastore, 1) by decide +kernel) rfl ha (by decide) ?_
  replace ha := ar_wI (b := 185) (j := ((41 : Int32)).toNatClampNeg) (v := vp_nar .byte (107 : Int32)) ha
  refine tr_dup (pc' := 298) (show decode cX10_init 297 = .ok (.dup, 1) by decide +kernel) rfl rfl ?_
  refine tr_bipush (pc' := 300) (v := (42 : Int32)) (show decode cX10_init 298 = .ok (.bipush 42, 2) by decide +kernel) rfl (by decide) ?_
  refine tr_bipush (pc' := 302) (v := (105 : Int32)) (show decode cX10_init 300 = .ok (.bipush 105, 2) by decide +kernel) rfl (by decide) ?_
  refine tr_bast (pc' := 303) (show decode cX10_init 302 = .ok (.bastore, 1) by decide +kernel) rfl ha (by decide) ?_
  replace ha := ar_wI (b := 185) (j := ((42 : Int32)).toNatClampNeg) (v := vp_nar .byte (105 : Int32)) ha
  refine tr_dup (pc' := 304) (show decode cX10_init 303 = .ok (.dup, 1) by decide +kernel) rfl rfl ?_
  refine tr_bipush (pc' := 306) (v := (43 : Int32)) (show decode cX10_init 304 = .ok (.bipush 43, 2) by decide +kernel) rfl (by decide) ?_
  refine tr_bipush (pc' := 308) (v := (110 : Int32)) (show decode cX10_init 306 = .ok (.bipush 110, 2) by decide +kernel) rfl (by decide) ?_
  refine tr_bast (pc' := 309) (show decode cX10_init 308 = .ok (.bastore, 1) by decide +kernel) rfl ha (by decide) ?_
  replace ha := ar_wI (b := 185) (j := ((43 : Int32)).toNatClampNeg) (v := vp_nar .byte (110 : Int32)) ha
  refine tr_dup (pc' := 310) (show decode cX10_init 309 = .ok (.dup, 1) by decide +kernel) rfl rfl ?_
  refine tr_bipush (pc' := 312) (v := (44 : Int32)) (show decode cX10_init 310 = .ok (.bipush 44, 2) by decide +kernel) rfl (by decide) ?_
  refine tr_bipush (pc' := 314) (v := (100 : Int32)) (show decode cX10_init 312 = .ok (.bipush 100, 2) by decide +kernel) rfl (by decide) ?_
  refine tr_bast (pc' := 315) (show decode cX10_init 314 = .ok (.bastore, 1) by decide +kernel) rfl ha (by decide) ?_
  replace ha := ar_wI (b := 185) (j := ((44 : Int32)).toNatClampNeg) (v := vp_nar .byte (100 : Int32)) ha
  refine tr_dup (pc' := 316) (show decode cX10_init 315 = .ok (.dup, 1) by decide +kernel) rfl rfl ?_
  refine tr_bipush (pc' := 318) (v := (45 : Int32)) (show decode cX10_init 316 = .ok (.bipush 45, 2) by decide +kernel) rfl (by decide) ?_
  refine tr_bipush (pc' := 320) (v := (32 : Int32)) (show decode cX10_init 318 = .ok (.bipush 32, 2) by decide +kernel) rfl (by decide) ?_
  refine tr_bast (pc' := 321) (show decode cX10_init 320 = .ok (.bastore, 1) by decide +kernel) rfl ha (by decide) ?_
  replace ha := ar_wI (b := 185) (j := ((45 : Int32)).toNatClampNeg) (v := vp_nar .byte (32 : Int32)) ha
  refine tr_dup (pc' := 322) (show decode cX10_init 321 = .ok (.dup, 1) by decide +kernel) rfl rfl ?_
  refine tr_bipush (pc' := 324) (v := (46 : Int32)) (show decode cX10_init 322 = .ok (.bipush 46, 2) by decide +kernel) rfl (by decide) ?_
  refine tr_bipush (pc' := 326) (v := (107 : Int32)) (show decode cX10_init 324 = .ok (.bipush 107, 2) by decide +kernel) rfl (by decide) ?_
  refine tr_bast (pc' := 327) (show decode cX10_init 326 = .ok (.bastore, 1) by decide +kernel) rfl ha (by decide) ?_
  replace ha := ar_wI (b := 185) (j := ((46 : Int32)).toNatClampNeg) (v := vp_nar .byte (107 : Int32)) ha
  refine tr_dup (pc' := 328) (show decode cX10_init 327 = .ok (.dup, 1) by decide +kernel) rfl rfl ?_
  refine tr_bipush (pc' := 330) (v := (47 : Int32)) (show decode cX10_init 328 = .ok (.bipush 47, 2) by decide +kernel) rfl (by decide) ?_
  refine tr_bipush (pc' := 332) (v := (105 : Int32)) (show decode cX10_init 330 = .ok (.bipush 105, 2) by decide +kernel) rfl (by decide) ?_
  refine tr_bast (pc' := 333) (show decode cX10_init 332 = .ok (.bastore, 1) by decide +kernel) rfl ha (by decide) ?_
  replace ha := ar_wI (b := 185) (j := ((47 : Int32)).toNatClampNeg) (v := vp_nar .byte (105 : Int32)) ha
  exact K
def i_Wc333 (μ : hm_M) : hm_M := hm_wI (hm_wI (hm_wI (hm_wI (hm_wI (hm_wI (hm_wI (hm_wI (hm_wI (hm_wI (hm_wI (hm_wI (hm_wI (hm_wI (hm_wI (hm_wI (μ) 185 ((48 : Int32)).toNatClampNeg (vp_nar .byte (110 : Int32))) 185 ((49 : Int32)).toNatClampNeg (vp_nar .byte (32 : Int32))) 185 ((50 : Int32)).toNatClampNeg (vp_nar .byte (102 : Int32))) 185 ((51 : Int32)).toNatClampNeg (vp_nar .byte (97 : Int32))) 185 ((52 : Int32)).toNatClampNeg (vp_nar .byte (114 : Int32))) 185 ((53 : Int32)).toNatClampNeg (vp_nar .byte (32 : Int32))) 185 ((54 : Int32)).toNatClampNeg (vp_nar .byte (114 : Int32))) 185 ((55 : Int32)).toNatClampNeg (vp_nar .byte (101 : Int32))) 185 ((56 : Int32)).toNatClampNeg (vp_nar .byte (97 : Int32))) 185 ((57 : Int32)).toNatClampNeg (vp_nar .byte (99 : Int32))) 185 ((58 : Int32)).toNatClampNeg (vp_nar .byte (104 : Int32))) 185 ((59 : Int32)).toNatClampNeg (vp_nar .byte (32 : Int32))) 185 ((60 : Int32)).toNatClampNeg (vp_nar .byte (109 : Int32))) 185 ((61 : Int32)).toNatClampNeg (vp_nar .byte (111 : Int32))) 185 ((62 : Int32)).toNatClampNeg (vp_nar .byte (111 : Int32))) 185 ((63 : Int32)).toNatClampNeg (vp_nar .byte (100 : Int32))
theorem sh_i_Wc333 {μ : hm_M} {o n : Nat} {ks : List (Nat × Nat)} (h : hm_sh μ o n ks) : hm_sh (i_Wc333 μ) o n ks := sh_same h rfl
theorem rf_i_Wc333 {μ : hm_M} {a j : Nat} {x : Option Nat} (h : μ.2.2.1 a j = x) : (i_Wc333 μ).2.2.1 a j = x := h
set_option maxRecDepth 100000 in
theorem i_Wc333_T {Λ : hm_M → Prop} {fr kc ks : Nat} {r : Option Value} {μ μ' : hm_M} {lv : List (Option Value)} {st : List Value} (ha : hm_ar μ 185 11 143) (K : hm_T Λ m_X10_init fr kc ks r μ' 429 lv (.ref 185 :: st) (i_Wc333 μ)) : hm_T Λ m_X10_init fr kc ks r μ' 333 lv (.ref 185 :: st) μ := by
  refine tr_dup (pc' := 334) (show decode cX10_init 333 = .ok (.dup, 1) by decide +kernel) rfl rfl ?_
  refine tr_bipush (pc' := 336) (v := (48 : Int32)) (show decode cX10_init 334 = .ok (.bipush 48, 2) by decide +kernel) rfl (by decide) ?_
  refine tr_bipush (pc' := 338) (v := (110 : Int32)) (show decode cX10_init 336 = .ok (.bipush 110, 2) by decide +kernel) rfl (by decide) ?_
  refine tr_bast (pc' := 339) (show decode cX10_init 338 = .ok (.bastore, 1) by decide +kernel) rfl ha (by decide) ?_
  replace ha := ar_wI (b := 185) (j := ((48 : Int32)).toNatClampNeg) (v := vp_nar .byte (110 : Int32)) ha
  refine tr_dup (pc' := 340) (show decode cX10_init 339 = .ok (.dup, 1) by decide +kernel) rfl rfl ?_
  refine tr_bipush (pc' := 342) (v := (49 : Int32)) (show decode cX10_init 340 = .ok (.bipush 49, 2) by decide +kernel) rfl (by decide) ?_
  refine tr_bipush (pc' := 344) (v := (32 : Int32)) (show decode cX10_init 342 = .ok (.bipush 32, 2) by decide +kernel) rfl (by decide) ?_
  refine tr_bast (pc' := 345) (show decode cX10_init 344 = .ok (.bastore, 1) by decide +kernel) rfl ha (by decide) ?_
  replace ha := ar_wI (b := 185) (j := ((49 : Int32)).toNatClampNeg) (v := vp_nar .byte (32 : Int32)) ha
  refine tr_dup (pc' := 346) (show decode cX10_init 345 = .ok (.dup, 1) by decide +kernel) rfl rfl ?_
  refine tr_bipush (pc' := 348) (v := (50 : Int32)) (show decode cX10_init 346 = .ok (.bipush 50, 2) by decide +kernel) rfl (by decide) ?_
  refine tr_bipush (pc' := 350) (v := (102 : Int32)) (show decode cX10_init 348 = .ok (.bipush 102, 2) by decide +kernel) rfl (by decide) ?_
  refine tr_bast (pc' := 351) (show decode cX10_init 350 = .ok (.bastore, 1) by decide +kernel) rfl ha (by decide) ?_
  replace ha := ar_wI (b := 185) (j := ((50 : Int32)).toNatClampNeg) (v := vp_nar .byte (102 : Int32)) ha
  refine tr_dup (pc' := 352) (show decode cX10_init 351 = .ok (.dup, 1) by decide +kernel) rfl rfl ?_
  refine tr_bipush (pc' := 354) (v := (51 : Int32)) (show decode cX10_init 352 = .ok (.bipush 51, 2) by decide +kernel) rfl (by decide) ?_
  refine tr_bipush (pc' := 356) (v := (97 : Int32)) (show decode cX10_init 354 = .ok (.bipush 97, 2) by decide +kernel) rfl (by decide) ?_
  refine tr_bast (pc' := 357) (show decode cX10_init 356 = .ok (.bastore, 1) by decide +kernel) rfl ha (by decide) ?_
  replace ha := ar_wI (b := 185) (j := ((51 : Int32)).toNatClampNeg) (v := vp_nar .byte (97 : Int32)) ha
  refine tr_dup (pc' := 358) (show decode cX10_init 357 = .ok (.dup, 1) by decide +kernel) rfl rfl ?_
  refine tr_bipush (pc' := 360) (v := (52 : Int32)) (show decode cX10_init 358 = .ok (.bipush 52, 2) by decide +kernel) rfl (by decide) ?_
  refine tr_bipush (pc' := 362) (v := (114 : Int32)) (show decode cX10_init 360 = .ok (.bipush 114, 2) by decide +kernel) rfl (by decide) ?_
  refine tr_bast (pc' := 363) (show decode cX10_init 362 = .ok (.bastore, 1) by decide +kernel) rfl ha (by decide) ?_
  replace ha := ar_wI (b := 185) (j := ((52 : Int32)).toNatClampNeg) (v := vp_nar .byte (114 : Int32)) ha
  refine tr_dup (pc' := 364) (show decode cX10_init 363 = .ok (.dup, 1) by decide +kernel) rfl rfl ?_
  refine tr_bipush (pc' := 366) (v := (53 : Int32)) (show decode cX10_init 364 = .ok (.bipush 53, 2) by decide +kernel) rfl (by decide) ?_
  refine tr_bipush (pc' := 368) (v := (32 : Int32)) (show decode cX10_init 366 = .ok (.bipush 32, 2) by decide +kernel) rfl (by decide) ?_
  refine tr_bast (pc' := 369) (show decode cX10_init 368 = .ok (.bastore, 1) by decide +kernel) rfl ha (by decide) ?_
  replace ha := ar_wI (b := 185) (j := ((53 : Int32)).toNatClampNeg) (v := vp_nar .byte (32 : Int32)) ha
  refine tr_dup (pc' := 370) (show decode cX10_init 369 = .ok (.dup, 1) by decide +kernel) rfl rfl ?_
  refine tr_bipush (pc' := 372) (v := (54 : Int32)) (show decode cX10_init 370 = .ok (.bipush 54, 2) by decide +kernel) rfl (by decide) ?_
  refine tr_bipush (pc' := 374) (v := (114 : Int32)) (show decode cX10_init 372 = .ok (.bipush 114, 2) by decide +kernel) rfl (by decide) ?_
  refine tr_bast (pc' := 375) (show decode cX10_init 374 = .ok (.bastore, 1) by decide +kernel) rfl ha (by decide) ?_
  replace ha := ar_wI (b := 185) (j := ((54 : Int32)).toNatClampNeg) (v := vp_nar .byte (114 : Int32)) ha
  refine tr_dup (pc' := 376) (show decode cX10_init 375 = .ok (.dup, 1) by decide +kernel) rfl rfl ?_
  refine tr_bipush (pc' := 378) (v := (55 : Int32)) (show decode cX10_init 376 = .ok (.bipush 55, 2) by decide +kernel) rfl (by decide) ?_
  refine tr_bipush (pc' := 380) (v := (101 : Int32)) (show decode cX10_init 378 = .ok (.bipush 101, 2) by decide +kernel) rfl (by decide) ?_
  refine tr_bast (pc' := 381) (show decode cX10_init 380 = .ok (.bastore, 1) by decide +kernel) rfl ha (by decide) ?_
  replace ha := ar_wI (b := 185) (j := ((55 : Int32)).toNatClampNeg) (v := vp_nar .byte (101 : Int32)) ha
  refine tr_dup (pc' := 382) (show decode cX10_init 381 = .ok (.dup, 1) by decide +kernel) rfl rfl ?_
  refine tr_bipush (pc' := 384) (v := (56 : Int32)) (show decode cX10_init 382 = .ok (.bipush 56, 2) by decide +kernel) rfl (by decide) ?_
  refine tr_bipush (pc' := 386) (v := (97 : Int32)) (show decode cX10_init 384 = .ok (.bipush 97, 2) by decide +kernel) rfl (by decide) ?_
  refine tr_bast (pc' := 387) (show decode cX10_init 386 = .ok (.bastore, 1) by decide +kernel) rfl ha (by decide) ?_
  replace ha := ar_wI (b := 185) (j := ((56 : Int32)).toNatClampNeg) (v := vp_nar .byte (97 : Int32)) ha
  refine tr_dup (pc' := 388) (show decode cX10_init 387 = .ok (.dup, 1) by decide +kernel) rfl rfl ?_
  refine tr_bipush (pc' := 390) (v := (57 : Int32)) (show decode cX10_init 388 = .ok (.bipush 57, 2) by decide +kernel) rfl (by decide) ?_
  refine tr_bipush (pc' := 392) (v := (99 : Int32)) (show decode cX10_init 390 = .ok (.bipush 99, 2) by decide +kernel) rfl (by decide) ?_
  refine tr_bast (pc' := 393) (show decode cX10_init 392 = .ok (.bastore, 1) by decide +kernel) rfl ha (by decide) ?_
  replace ha := ar_wI (b := 185) (j := ((57 : Int32)).toNatClampNeg) (v := vp_nar .byte (99 : Int32)) ha
  refine tr_dup (pc' := 394) (show decode cX10_init 393 = .ok (.dup, 1) by decide +kernel) rfl rfl ?_
  refine tr_bipush (pc' := 396) (v := (58 : Int32)) (show decode cX10_init 394 = .ok (.bipush 58, 2) by decide +kernel) rfl (by decide) ?_
  refine tr_bipush (pc' := 398) (v := (104 : Int32)) (show decode cX10_init 396 = .ok (.bipush 104, 2) by decide +kernel) rfl (by decide) ?_
  refine tr_bast (pc' := 399) (show decode cX10_init 398 = .ok (.bastore, 1) by decide +kernel) rfl ha (by decide) ?_
  replace ha := ar_wI (b := 185) (j := ((58 : Int32)).toNatClampNeg) (v := vp_nar .byte (104 : Int32)) ha
  refine tr_dup (pc' := 400) (show decode cX10_init 399 = .ok (.dup, 1) by decide +kernel) rfl rfl ?_
  refine tr_bipush (pc' := 402) (v := (59 : Int32)) (show decode cX10_init 400 = .ok (.bipush 59, 2) by decide +kernel) rfl (by decide) ?_
  refine tr_bipush (pc' := 404) (v := (32 : Int32)) (show decode cX10_init 402 = .ok (.bipush 32, 2) by decide +kernel) rfl (by decide) ?_
  refine tr_bast (pc' := 405) (show decode cX10_init 404 = .ok (.bastore, 1) by decide +kernel) rfl ha (by decide) ?_
  replace ha := ar_wI (b := 185) (j := ((59 : Int32)).toNatClampNeg) (v := vp_nar .byte (32 : Int32)) ha
  refine tr_dup (pc' := 406) (show decode cX10_init 405 = .ok (.dup, 1) by decide +kernel) rfl rfl ?_
  refine tr_bipush (pc' := 408) (v := (60 : Int32)) (show decode cX10_init 406 = .ok (.bipush 60, 2) by decide +kernel) rfl (by decide) ?_
  refine tr_bipush (pc' := 410) (v := (109 : Int32)) (show decode cX10_init 408 = .ok (.bipush 109, 2) by decide +kernel) rfl (by decide) ?_
  refine tr_bast (pc' := 411) (show decode cX10_init 410 = .ok (.bastore, 1) by decide +kernel) rfl ha (by decide) ?_
  replace ha := ar_wI (b := 185) (j := ((60 : Int32)).toNatClampNeg) (v := vp_nar .byte (109 : Int32)) ha
  refine tr_dup (pc' := 412) (show decode cX10_init 411 = .ok (.dup, 1) by decide +kernel) rfl rfl ?_
  refine tr_bipush (pc' := 414) (v := (61 : Int32)) (show decode cX10_init 412 = .ok (.bipush 61, 2) by decide +kernel) rfl (by decide) ?_
  refine tr_bipush (pc' := 416) (v := (111 : Int32)) (show decode cX10_init 414 = .ok (.bipush 111, 2) by decide +kernel) rfl (by decide) ?_
  refine tr_bast (pc' := 417) (show decode cX10_init 416 = .ok (.bastore, 1) by decide +kernel) rfl ha (by decide) ?_
  replace ha := ar_wI (b := 185) (j := ((61 : Int32)).toNatClampNeg) (v := vp_nar .byte (111 : Int32)) ha
  refine tr_dup (pc' := 418) (show decode cX10_init 417 = .ok (.dup, 1) by decide +kernel) rfl rfl ?_
  refine tr_bipush (pc' := 420) (v := (62 : Int32)) (show decode cX10_init 418 = .ok (.bipush 62, 2) by decide +kernel) rfl (by decide) ?_
  refine tr_bipush (pc' := 422) (v := (111 : Int32)) (show decode cX10_init 420 = .ok (.bipush 111, 2) by decide +kernel) rfl (by decide) ?_
  refine tr_bast (pc' := 423) (show decode cX10_init 422 = .ok (.bastore, 1) by decide +kernel) rfl ha (by decide) ?_
  replace ha := ar_wI (b := 185) (j := ((62 : Int32)).toNatClampNeg) (v := vp_nar .byte (111 : Int32)) ha
  refine tr_dup (pc' := 424) (show decode cX10_init 423 = .ok (.dup, 1) by decide +kernel) rfl rfl ?_
  refine tr_bipush (pc' := 426) (v := (63 : Int32)) (show decode cX10_init 424 = .ok (.bipush 63, 2) by decide +kernel) rfl (by decide) ?_
  refine tr_bipush (pc' := 428) (v := (100 : Int32)) (show decode cX10_init 426 = .ok (.bipush 100, 2) by decide +kernel) rfl (by decide) ?_
  refine tr_bast (pc' := 429) (show decode cX10_init 428 = .ok (.bastore, 1) by decide +kernel) rfl ha (by decide) ?_
  replace ha := ar_wI (b := 185) (j := ((63 : Int32)).toNatClampNeg) (v := vp_nar .byte (100 : Int32)) ha
  exact K
def i_Wc429 (μ : hm_M) : hm_M := hm_wI (hm_wI (hm_wI (hm_wI (hm_wI (hm_wI (hm_wI (hm_wI (hm_wI (hm_wI (hm_wI (hm_wI (hm_wI (hm_wI (hm_wI (hm_wI (μ) 185 ((64 : Int32)).toNatClampNeg (vp_nar .byte (32 : Int32))) 185 ((65 : Int32)).toNatClampNeg (vp_nar .byte (100 : Int32))) 185 ((66 : Int32)).toNatClampNeg (vp_nar .byte (97 : Int32))) 185 ((67 : Int32)).toNatClampNeg (vp_nar .byte (121 : Int32))) 185 ((68 : Int32)).toNatClampNeg (vp_nar .byte (32 : Int32))) 185 ((69 : Int32)).toNatClampNeg (vp_nar .byte (100 : Int32))) 185 ((70 : Int32)).toNatClampNeg (vp_nar .byte (111 : Int32))) 185 ((71 : Int32)).toNatClampNeg (vp_nar .byte (110 : Int32))) 185 ((72 : Int32)).toNatClampNeg (vp_nar .byte (101 : Int32))) 185 ((73 : Int32)).toNatClampNeg (vp_nar .byte (32 : Int32))) 185 ((74 : Int32)).toNatClampNeg (vp_nar .byte (108 : Int32))) 185 ((75 : Int32)).toNatClampNeg (vp_nar .byte (97 : Int32))) 185 ((76 : Int32)).toNatClampNeg (vp_nar .byte (116 : Int32))) 185 ((77 : Int32)).toNatClampNeg (vp_nar .byte (101 : Int32))) 185 ((78 : Int32)).toNatClampNeg (vp_nar .byte (115 : Int32))) 185 ((79 : Int32)).toNatClampNeg (vp_nar .byte (116 : Int32))
theorem sh_i_Wc429 {μ : hm_M} {o n : Nat} {ks : List (Nat × Nat)} (h : hm_sh μ o n ks) : hm_sh (i_Wc429 μ) o n ks := sh_same h rfl
theorem rf_i_Wc429 {μ : hm_M} {a j : Nat} {x : Option Nat} (h : μ.2.2.1 a j = x) : (i_Wc429 μ).2.2.1 a j = x := h
set_option maxRecDepth 100000 in
theorem i_Wc429_T {Λ : hm_M → Prop} {fr kc ks : Nat} {r : Option Value} {μ μ' : hm_M} {lv : List (Option Value)} {st : List Value} (ha : hm_ar μ 185 11 143) (K : hm_T Λ m_X10_init fr kc ks r μ' 525 lv (.ref 185 :: st) (i_Wc429 μ)) : hm_T Λ m_X10_init fr kc ks r μ' 429 lv (.ref 185 :: st) μ := by
  refine tr_dup (pc' := 430) (show decode cX10_init 429 = .ok (.dup, 1) by decide +kernel) rfl rfl ?_
  refine tr_bipush (pc' := 432) (v := (64 : Int32)) (show decode cX10_init 430 = .ok (.bipush 64, 2) by decide +kernel) rfl (by decide) ?_
  refine tr_bipush (pc' := 434) (v := (32 : Int32)) (show decode cX10_init 432 = .ok (.bipush 32, 2) by decide +kernel) rfl (by decide) ?_
  refine tr_bast (pc' := 435) (show decode cX10_init 434 = .ok (.bastore, 1) by decide +kernel) rfl ha (by decide) ?_
  replace ha := ar_wI (b := 185) (j := ((64 : Int32)).toNatClampNeg) (v := vp_nar .byte (32 : Int32)) ha
  refine tr_dup (pc' := 436) (show decode cX10_init 435 = .ok (.dup, 1) by decide +kernel) rfl rfl ?_
  refine tr_bipush (pc' := 438) (v := (65 : Int32)) (show decode cX10_init 436 = .ok (.bipush 65, 2) by decide +kernel) rfl (by decide) ?_
  refine tr_bipush (pc' := 440) (v := (100 : Int32)) (show decode cX10_init 438 = .ok (.bipush 100, 2) by decide +kernel) rfl (by decide) ?_
  refine tr_bast (pc' := 441) (show decode cX10_init 440 = .ok (.bastore, 1) by decide +kernel) rfl ha (by decide) ?_
  replace ha := ar_wI (b := 185) (j := ((65 : Int32)).toNatClampNeg) (v := vp_nar .byte (100 : Int32)) ha
  refine tr_dup (pc' := 442) (show decode cX10_init 441 = .ok (.dup, 1) by decide +kernel) rfl rfl ?_
  refine tr_bipush (pc' := 444) (v := (66 : Int32)) (show decode cX10_init 442 = .ok (.bipush 66, 2) by decide +kernel) rfl (by decide) ?_
  refine tr_bipush (pc' := 446) (v := (97 : Int32)) (show decode cX10_init 444 = .ok (.bipush 97, 2) by decide +kernel) rfl (by decide) ?_
  refine tr_bast (pc' := 447) (show decode cX10_init 446 = .ok (.bastore, 1) by decide +kernel) rfl ha (by decide) ?_
  replace ha := ar_wI (b := 185) (j := ((66 : Int32)).toNatClampNeg) (v := vp_nar .byte (97 : Int32)) ha
  refine tr_dup (pc' := 448) (show decode cX10_init 447 = .ok (.dup, 1) by decide +kernel) rfl rfl ?_
  refine tr_bipush (pc' := 450) (v := (67 : Int32)) (show decode cX10_init 448 = .ok (.bipush 67, 2) by decide +kernel) rfl (by decide) ?_
  refine tr_bipush (pc' := 452) (v := (121 : Int32)) (show decode cX10_init 450 = .ok (.bipush 121, 2) by decide +kernel) rfl (by decide) ?_
  refine tr_bast (pc' := 453) (show decode cX10_init 452 = .ok (.bastore, 1) by decide +kernel) rfl ha (by decide) ?_
  replace ha := ar_wI (b := 185) (j := ((67 : Int32)).toNatClampNeg) (v := vp_nar .byte (121 : Int32)) ha
  refine tr_dup (pc' := 454) (show decode cX10_init 453 = .ok (.dup, 1) by decide +kernel) rfl rfl ?_
  refine tr_bipush (pc' := 456) (v := (68 : Int32)) (show decode cX10_init 454 = .ok (.bipush 68, 2) by decide +kernel) rfl (by decide) ?_
  refine tr_bipush (pc' := 458) (v := (32 : Int32)) (show decode cX10_init 456 = .ok (.bipush 32, 2) by decide +kernel) rfl (by decide) ?_
  refine tr_bast (pc' := 459) (show decode cX10_init 458 = .ok (.bastore, 1) by decide +kernel) rfl ha (by decide) ?_
  replace ha := ar_wI (b := 185) (j := ((68 : Int32)).toNatClampNeg) (v := vp_nar .byte (32 : Int32)) ha
  refine tr_dup (pc' := 460) (show decode cX10_init 459 = .ok (.dup, 1) by decide +kernel) rfl rfl ?_
  refine tr_bipush (pc' := 462) (v := (69 : Int32)) (show decode cX10_init 460 = .ok (.bipush 69, 2) by decide +kernel) rfl (by decide) ?_
  refine tr_bipush (pc' := 464) (v := (100 : Int32)) (show decode cX10_init 462 = .ok (.bipush 100, 2) by decide +kernel) rfl (by decide) ?_
  refine tr_bast (pc' := 465) (show decode cX10_init 464 = .ok (.bastore, 1) by decide +kernel) rfl ha (by decide) ?_
  replace ha := ar_wI (b := 185) (j := ((69 : Int32)).toNatClampNeg) (v := vp_nar .byte (100 : Int32)) ha
  refine tr_dup (pc' := 466) (show decode cX10_init 465 = .ok (.dup, 1) by decide +kernel) rfl rfl ?_
  refine tr_bipush (pc' := 468) (v := (70 : Int32)) (show decode cX10_init 466 = .ok (.bipush 70, 2) by decide +kernel) rfl (by decide) ?_
  refine tr_bipush (pc' := 470) (v := (111 : Int32)) (show decode cX10_init 468 = .ok (.bipush 111, 2) by decide +kernel) rfl (by decide) ?_
  refine tr_bast (pc' := 471) (show decode cX10_init 470 = .ok (.bastore, 1) by decide +kernel) rfl ha (by decide) ?_
  replace ha := ar_wI (b := 185) (j := ((70 : Int32)).toNatClampNeg) (v := vp_nar .byte (111 : Int32)) ha
  refine tr_dup (pc' := 472) (show decode cX10_init 471 = .ok (.dup, 1) by decide +kernel) rfl rfl ?_
  refine tr_bipush (pc' := 474) (v := (71 : Int32)) (show decode cX10_init 472 = .ok (.bipush 71, 2) by decide +kernel) rfl (by decide) ?_
  refine tr_bipush (pc' := 476) (v := (110 : Int32)) (show decode cX10_init 474 = .ok (.bipush 110, 2) by decide +kernel) rfl (by decide) ?_
  refine tr_bast (pc' := 477) (show decode cX10_init 476 = .ok (.bastore, 1) by decide +kernel) rfl ha (by decide) ?_
  replace ha := ar_wI (b := 185) (j := ((71 : Int32)).toNatClampNeg) (v := vp_nar .byte (110 : Int32)) ha
  refine tr_dup (pc' := 478) (show decode cX10_init 477 = .ok (.dup, 1) by decide +kernel) rfl rfl ?_
  refine tr_bipush (pc' := 480) (v := (72 : Int32)) (show decode cX10_init 478 = .ok (.bipush 72, 2) by decide +kernel) rfl (by decide) ?_
  refine tr_bipush (pc' := 482) (v := (101 : Int32)) (show decode cX10_init 480 = .ok (.bipush 101, 2) by decide +kernel) rfl (by decide) ?_
  refine tr_bast (pc' := 483) (show decode cX10_init 482 = .ok (.bastore, 1) by decide +kernel) rfl ha (by decide) ?_
  replace ha := ar_wI (b := 185) (j := ((72 : Int32)).toNatClampNeg) (v := vp_nar .byte (101 : Int32)) ha
  refine tr_dup (pc' := 484) (show decode cX10_init 483 = .ok (.dup, 1) by decide +kernel) rfl rfl ?_
  refine tr_bipush (pc' := 486) (v := (73 : Int32)) (show decode cX10_init 484 = .ok (.bipush 73, 2) by decide +kernel) rfl (by decide) ?_
  refine tr_bipush (pc' := 488) (v := (32 : Int32)) (show decode cX10_init 486 = .ok (.bipush 32, 2) by decide +kernel) rfl (by decide) ?_
  refine tr_bast (pc' := 489) (show decode cX10_init 488 = .ok (.bastore, 1) by decide +kernel) rfl ha (by decide) ?_
  replace ha := ar_wI (b := 185) (j := ((73 : Int32)).toNatClampNeg) (v := vp_nar .byte (32 : Int32)) ha
  refine tr_dup (pc' := 490) (show decode cX10_init 489 = .ok (.dup, 1) by decide +kernel) rfl rfl ?_
  refine tr_bipush (pc' := 492) (v := (74 : Int32)) (show decode cX10_init 490 = .ok (.bipush 74, 2) by decide +kernel) rfl (by decide) ?_
  refine tr_bipush (pc' := 494) (v := (108 : Int32)) (show decode cX10_init 492 = .ok (.bipush 108, 2) by decide +kernel) rfl (by decide) ?_
  refine tr_bast (pc' := 495) (show decode cX10_init 494 = .ok (.bastore, 1) by decide +kernel) rfl ha (by decide) ?_
  replace ha := ar_wI (b := 185) (j := ((74 : Int32)).toNatClampNeg) (v := vp_nar .byte (108 : Int32)) ha
  refine tr_dup (pc' := 496) (show decode cX10_init 495 = .ok (.dup, 1) by decide +kernel) rfl rfl ?_
  refine tr_bipush (pc' := 498) (v := (75 : Int32)) (show decode cX10_init 496 = .ok (.bipush 75, 2) by decide +kernel) rfl (by decide) ?_
  refine tr_bipush (pc' := 500) (v := (97 : Int32)) (show decode cX10_init 498 = .ok (.bipush 97, 2) by decide +kernel) rfl (by decide) ?_
  refine tr_bast (pc' := 501) (show decode cX10_init 500 = .ok (.bastore, 1) by decide +kernel) rfl ha (by decide) ?_
  replace ha := ar_wI (b := 185) (j := ((75 : Int32)).toNatClampNeg) (v := vp_nar .byte (97 : Int32)) ha
  refine tr_dup (pc' := 502) (show decode cX10_init 501 = .ok (.dup, 1) by decide +kernel) rfl rfl ?_
  refine tr_bipush (pc' := 504) (v := (76 : Int32)) (show decode cX10_init 502 = .ok (.bipush 76, 2) by decide +kernel) rfl (by decide) ?_
  refine tr_bipush (pc' := 506) (v := (116 : Int32)) (show decode cX10_init 504 = .ok (.bipush 116, 2) by decide +kernel) rfl (by decide) ?_
  refine tr_bast (pc' := 507) (show decode cX10_init 506 = .ok (.bastore, 1) by decide +kernel) rfl ha (by decide) ?_
  replace ha := ar_wI (b := 185) (j := ((76 : Int32)).toNatClampNeg) (v := vp_nar .byte (116 : Int32)) ha
  refine tr_dup (pc' := 508) (show decode cX10_init 507 = .ok (.dup, 1) by decide +kernel) rfl rfl ?_
  refine tr_bipush (pc' := 510) (v := (77 : Int32)) (show decode cX10_init 508 = .ok (.bipush 77, 2) by decide +kernel) rfl (by decide) ?_
  refine tr_bipush (pc' := 512) (v := (101 : Int32)) (show decode cX10_init 510 = .ok (.bipush 101, 2) by decide +kernel) rfl (by decide) ?_
  refine tr_bast (pc' := 513) (show decode cX10_init 512 = .ok (.bastore, 1) by decide +kernel) rfl ha (by decide) ?_
  replace ha := ar_wI (b := 185) (j := ((77 : Int32)).toNatClampNeg) (v := vp_nar .byte (101 : Int32)) ha
  refine tr_dup (pc' := 514) (show decode cX10_init 513 = .ok (.dup, 1) by decide +kernel) rfl rfl ?_
  refine tr_bipush (pc' := 516) (v := (78 : Int32)) (show decode cX10_init 514 = .ok (.bipush 78, 2) by decide +kernel) rfl (by decide) ?_
  refine tr_bipush (pc' := 518) (v := (115 : Int32)) (show decode cX10_init 516 = .ok (.bipush 115, 2) by decide +kernel) rfl (by decide) ?_
  refine tr_bast (pc' := 519) (show decode cX10_init 518 = .ok (.bastore, 1) by decide +kernel) rfl ha (by decide) ?_
  replace ha := ar_wI (b := 185) (j := ((78 : Int32)).toNatClampNeg) (v := vp_nar .byte (115 : Int32)) ha
  refine tr_dup (pc' := 520) (show decode cX10_init 519 = .ok (.dup, 1) by decide +kernel) rfl rfl ?_
  refine tr_bipush (pc' := 522) (v := (79 : Int32)) (show decode cX10_init 520 = .ok (.bipush 79, 2) by decide +kernel) rfl (by decide) ?_
  refine tr_bipush (pc' := 524) (v := (116 : Int32)) (show decode cX10_init 522 = .ok (.bipush 116, 2) by decide +kernel) rfl (by decide) ?_
  refine tr_bast (pc' := 525) (show decode cX10_init 524 = .ok (.bastore, 1) by decide +kernel) rfl ha (by decide) ?_
  replace ha := ar_wI (b := 185) (j := ((79 : Int32)).toNatClampNeg) (v := vp_nar .byte (116 : Int32)) ha
  exact K
def i_Wc525 (μ : hm_M) : hm_M := hm_wI (hm_wI (hm_wI (hm_wI (hm_wI (hm_wI (hm_wI (hm_wI (hm_wI (hm_wI (hm_wI (hm_wI (hm_wI (hm_wI (hm_wI (hm_wI (μ) 185 ((80 : Int32)).toNatClampNeg (vp_nar .byte (32 : Int32))) 185 ((81 : Int32)).toNatClampNeg (vp_nar .byte (104 : Int32))) 185 ((82 : Int32)).toNatClampNeg (vp_nar .byte (111 : Int32))) 185 ((83 : Int32)).toNatClampNeg (vp_nar .byte (108 : Int32))) 185 ((84 : Int32)).toNatClampNeg (vp_nar .byte (100 : Int32))) 185 ((85 : Int32)).toNatClampNeg (vp_nar .byte (115 : Int32))) 185 ((86 : Int32)).toNatClampNeg (vp_nar .byte (32 : Int32))) 185 ((87 : Int32)).toNatClampNeg (vp_nar .byte (108 : Int32))) 185 ((88 : Int32)).toNatClampNeg (vp_nar .byte (111 : Int32))) 185 ((89 : Int32)).toNatClampNeg (vp_nar .byte (115 : Int32))) 185 ((90 : Int32)).toNatClampNeg (vp_nar .byte (116 : Int32))) 185 ((91 : Int32)).toNatClampNeg (vp_nar .byte (32 : Int32))) 185 ((92 : Int32)).toNatClampNeg (vp_nar .byte (99 : Int32))) 185 ((93 : Int32)).toNatClampNeg (vp_nar .byte (101 : Int32))) 185 ((94 : Int32)).toNatClampNeg (vp_nar .byte (108 : Int32))) 185 ((95 : Int32)).toNatClampNeg (vp_nar .byte (108 : Int32))
theorem sh_i_Wc525 {μ : hm_M} {o n : Nat} {ks : List (Nat × Nat)} (h : hm_sh μ o n ks) : hm_sh (i_Wc525 μ) o n ks := sh_same h rfl
theorem rf_i_Wc525 {μ : hm_M} {a j : Nat} {x : Option Nat} (h : μ.2.2.1 a j = x) : (i_Wc525 μ).2.2.1 a j = x := h
set_option maxRecDepth 100000 in
theorem i_Wc525_T {Λ : hm_M → Prop} {fr kc ks : Nat} {r : Option Value} {μ μ' : hm_M} {lv : List (Option Value)} {st : List Value} (ha : hm_ar μ 185 11 143) (K : hm_T Λ m_X10_init fr kc ks r μ' 621 lv (.ref 185 :: st) (i_Wc525 μ)) : hm_T Λ m_X10_init fr kc ks r μ' 525 lv (.ref 185 :: st) μ := by
  refine tr_dup (pc' := 526) (show decode cX10_init 525 = .ok (.dup, 1) by decide +kernel) rfl rfl ?_
  refine tr_bipush (pc' := 528) (v := (80 : Int32)) (show decode cX10_init 526 = .ok (.bipush 80, 2) by decide +kernel) rfl (by decide) ?_
  refine tr_bipush (pc' := 530) (v := (32 : Int32)) (show decode cX10_init 528 = .ok (.bipush 32, 2) by decide +kernel) rfl (by decide) ?_
  refine tr_bast (pc' := 531) (show decode cX10_init 530 = .ok (.bastore, 1) by decide +kernel) rfl ha (by decide) ?_
  replace ha := ar_wI (b := 185) (j := ((80 : Int32)).toNatClampNeg) (v := vp_nar .byte (32 : Int32)) ha
  refine tr_dup (pc' := 532) (show decode cX10_init 531 = .ok (.dup, 1) by decide +kernel) rfl rfl ?_
  refine tr_bipush (pc' := 534) (v := (81 : Int32)) (show decode cX10_init 532 = .ok (.bipush 81, 2) by decide +kernel) rfl (by decide) ?_
  refine tr_bipush (pc' := 536) (v := (104 : Int32)) (show decode cX10_init 534 = .ok (.bipush 104, 2) by decide +kernel) rfl (by decide) ?_
  refine tr_bast (pc' := 537) (show decode cX10_init 536 = .ok (.bastore, 1) by decide +kernel) rfl ha (by decide) ?_
  replace ha := ar_wI (b := 185) (j := ((81 : Int32)).toNatClampNeg) (v := vp_nar .byte (104 : Int32)) ha
  refine tr_dup (pc' := 538) (show decode cX10_init 537 = .ok (.dup, 1) by decide +kernel) rfl rfl ?_
  refine tr_bipush (pc' := 540) (v := (82 : Int32)) (show decode cX10_init 538 = .ok (.bipush 82, 2) by decide +kernel) rfl (by decide) ?_
  refine tr_bipush (pc' := 542) (v := (111 : Int32)) (show decode cX10_init 540 = .ok (.bipush 111, 2) by decide +kernel) rfl (by decide) ?_
  refine tr_bast (pc' := 543) (show decode cX10_init 542 = .ok (.bastore, 1) by decide +kernel) rfl ha (by decide) ?_
  replace ha := ar_wI (b := 185) (j := ((82 : Int32)).toNatClampNeg) (v := vp_nar .byte (111 : Int32)) ha
  refine tr_dup (pc' := 544) (show decode cX10_init 543 = .ok (.dup, 1) by decide +kernel) rfl rfl ?_
  refine tr_bipush (pc' := 546) (v := (83 : Int32)) (show decode cX10_init 544 = .ok (.bipush 83, 2) by decide +kernel) rfl (by decide) ?_
  refine tr_bipush (pc' := 548) (v := (108 : Int32)) (show decode cX10_init 546 = .ok (.bipush 108, 2) by decide +kernel) rfl (by decide) ?_
  refine tr_bast (pc' := 549) (show decode cX10_init 548 = .ok (.bastore, 1) by decide +kernel) rfl ha (by decide) ?_
  replace ha := ar_wI (b := 185) (j := ((83 : Int32)).toNatClampNeg) (v := vp_nar .byte (108 : Int32)) ha
  refine tr_dup (pc' := 550) (show decode cX10_init 549 = .ok (.dup, 1) by decide +kernel) rfl rfl ?_
  refine tr_bipush (pc' := 552) (v := (84 : Int32)) (show decode cX10_init 550 = .ok (.bipush 84, 2) by decide +kernel) rfl (by decide) ?_
  refine tr_bipush (pc' := 554) (v := (100 : Int32)) (show decode cX10_init 552 = .ok (.bipush 100, 2) by decide +kernel) rfl (by decide) ?_
  refine tr_bast (pc' := 555) (show decode cX10_init 554 = .ok (.bastore, 1) by decide +kernel) rfl ha (by decide) ?_
  replace ha := ar_wI (b := 185) (j := ((84 : Int32)).toNatClampNeg) (v := vp_nar .byte (100 : Int32)) ha
  refine tr_dup (pc' := 556) (show decode cX10_init 555 = .ok (.dup, 1) by decide +kernel) rfl rfl ?_
  refine tr_bipush (pc' := 558) (v := (85 : Int32)) (show decode cX10_init 556 = .ok (.bipush 85, 2) by decide +kernel) rfl (by decide) ?_
  refine tr_bipush (pc' := 560) (v := (115 : Int32)) (show decode cX10_init 558 = .ok (.bipush 115, 2) by decide +kernel) rfl (by decide) ?_
  refine tr_bast (pc' := 561) (show decode cX10_init 560 = .ok (.bastore, 1) by decide +kernel) rfl ha (by decide) ?_
  replace ha := ar_wI (b := 185) (j := ((85 : Int32)).toNatClampNeg) (v := vp_nar .byte (115 : Int32)) ha
  refine tr_dup (pc' := 562) (show decode cX10_init 561 = .ok (.dup, 1) by decide +kernel) rfl rfl ?_
  refine tr_bipush (pc' := 564) (v := (86 : Int32)) (show decode cX10_init 562 = .ok (.bipush 86, 2) by decide +kernel) rfl (by decide) ?_
  refine tr_bipush (pc' := 566) (v := (32 : Int32)) (show decode cX10_init 564 = .ok (.bipush 32, 2) by decide +kernel) rfl (by decide) ?_
  refine tr_bast (pc' := 567) (show decode cX10_init 566 = .ok (.bastore, 1) by decide +kernel) rfl ha (by decide) ?_
  replace ha := ar_wI (b := 185) (j := ((86 : Int32)).toNatClampNeg) (v := vp_nar .byte (32 : Int32)) ha
  refine tr_dup (pc' := 568) (show decode cX10_init 567 = .ok (.dup, 1) by decide +kernel) rfl rfl ?_
  refine tr_bipush (pc' := 570) (v := (87 : Int32)) (show decode cX10_init 568 = .ok (.bipush 87, 2) by decide +kernel) rfl (by decide) ?_
  refine tr_bipush (pc' := 572) (v := (108 : Int32)) (show decode cX10_init 570 = .ok (.bipush 108, 2) by decide +kernel) rfl (by decide) ?_
  refine tr_bast (pc' := 573) (show decode cX10_init 572 = .ok (.bastore, 1) by decide +kernel) rfl ha (by decide) ?_
  replace ha := ar_wI (b := 185) (j := ((87 : Int32)).toNatClampNeg) (v := vp_nar .byte (108 : Int32)) ha
  refine tr_dup (pc' := 574) (show decode cX10_init 573 = .ok (.dup, 1) by decide +kernel) rfl rfl ?_
  refine tr_bipush (pc' := 576) (v := (88 : Int32)) (show decode cX10_init 574 = .ok (.bipush 88, 2) by decide +kernel) rfl (by decide) ?_
  refine tr_bipush (pc' := 578) (v := (111 : Int32)) (show decode cX10_init 576 = .ok (.bipush 111, 2) by decide +kernel) rfl (by decide) ?_
  refine tr_bast (pc' := 579) (show decode cX10_init 578 = .ok (.bastore, 1) by decide +kernel) rfl ha (by decide) ?_
  replace ha := ar_wI (b := 185) (j := ((88 : Int32)).toNatClampNeg) (v := vp_nar .byte (111 : Int32)) ha
  refine tr_dup (pc' := 580) (show decode cX10_init 579 = .ok (.dup, 1) by decide +kernel) rfl rfl ?_
  refine tr_bipush (pc' := 582) (v := (89 : Int32)) (show decode cX10_init 580 = .ok (.bipush 89, 2) by decide +kernel) rfl (by decide) ?_
  refine tr_bipush (pc' := 584) (v := (115 : Int32)) (show decode cX10_init 582 = .ok (.bipush 115, 2) by decide +kernel) rfl (by decide) ?_
  refine tr_bast (pc' := 585) (show decode cX10_init 584 = .ok (.bastore, 1) by decide +kernel) rfl ha (by decide) ?_
  replace ha := ar_wI (b := 185) (j := ((89 : Int32)).toNatClampNeg) (v := vp_nar .byte (115 : Int32)) ha
  refine tr_dup (pc' := 586) (show decode cX10_init 585 = .ok (.dup, 1) by decide +kernel) rfl rfl ?_
  refine tr_bipush (pc' := 588) (v := (90 : Int32)) (show decode cX10_init 586 = .ok (.bipush 90, 2) by decide +kernel) rfl (by decide) ?_
  refine tr_bipush (pc' := 590) (v := (116 : Int32)) (show decode cX10_init 588 = .ok (.bipush 116, 2) by decide +kernel) rfl (by decide) ?_
  refine tr_bast (pc' := 591) (show decode cX10_init 590 = .ok (.bastore, 1) by decide +kernel) rfl ha (by decide) ?_
  replace ha := ar_wI (b := 185) (j := ((90 : Int32)).toNatClampNeg) (v := vp_nar .byte (116 : Int32)) ha
  refine tr_dup (pc' := 592) (show decode cX10_init 591 = .ok (.dup, 1) by decide +kernel) rfl rfl ?_
  refine tr_bipush (pc' := 594) (v := (91 : Int32)) (show decode cX10_init 592 = .ok (.bipush 91, 2) by decide +kernel) rfl (by decide) ?_
  refine tr_bipush (pc' := 596) (v := (32 : Int32)) (show decode cX10_init 594 = .ok (.bipush 32, 2) by decide +kernel) rfl (by decide) ?_
  refine tr_bast (pc' := 597) (show decode cX10_init 596 = .ok (.bastore, 1) by decide +kernel) rfl ha (by decide) ?_
  replace ha := ar_wI (b := 185) (j := ((91 : Int32)).toNatClampNeg) (v := vp_nar .byte (32 : Int32)) ha
  refine tr_dup (pc' := 598) (show decode cX10_init 597 = .ok (.dup, 1) by decide +kernel) rfl rfl ?_
  refine tr_bipush (pc' := 600) (v := (92 : Int32)) (show decode cX10_init 598 = .ok (.bipush 92, 2) by decide +kernel) rfl (by decide) ?_
  refine tr_bipush (pc' := 602) (v := (99 : Int32)) (show decode cX10_init 600 = .ok (.bipush 99, 2) by decide +kernel) rfl (by decide) ?_
  refine tr_bast (pc' := 603) (show decode cX10_init 602 = .ok (.bastore, 1) by decide +kernel) rfl ha (by decide) ?_
  replace ha := ar_wI (b := 185) (j := ((92 : Int32)).toNatClampNeg) (v := vp_nar .byte (99 : Int32)) ha
  refine tr_dup (pc' := 604) (show decode cX10_init 603 = .ok (.dup, 1) by decide +kernel) rfl rfl ?_
  refine tr_bipush (pc' := 606) (v := (93 : Int32)) (show decode cX10_init 604 = .ok (.bipush 93, 2) by decide +kernel) rfl (by decide) ?_
  refine tr_bipush (pc' := 608) (v := (101 : Int32)) (show decode cX10_init 606 = .ok (.bipush 101, 2) by decide +kernel) rfl (by decide) ?_
  refine tr_bast (pc' := 609) (show decode cX10_init 608 = .ok (.bastore, 1) by decide +kernel) rfl ha (by decide) ?_
  replace ha := ar_wI (b := 185) (j := ((93 : Int32)).toNatClampNeg) (v := vp_nar .byte (101 : Int32)) ha
  refine tr_dup (pc' := 610) (show decode cX10_init 609 = .ok (.dup, 1) by decide +kernel) rfl rfl ?_
  refine tr_bipush (pc' := 612) (v := (94 : Int32)) (show decode cX10_init 610 = .ok (.bipush 94, 2) by decide +kernel) rfl (by decide) ?_
  refine tr_bipush (pc' := 614) (v := (108 : Int32)) (show decode cX10_init 612 = .ok (.bipush 108, 2) by decide +kernel) rfl (by decide) ?_
  refine tr_bast (pc' := 615) (show decode cX10_init 614 = .ok (.bastore, 1) by decide +kernel) rfl ha (by decide) ?_
  replace ha := ar_wI (b := 185) (j := ((94 : Int32)).toNatClampNeg) (v := vp_nar .byte (108 : Int32)) ha
  refine tr_dup (pc' := 616) (show decode cX10_init 615 = .ok (.dup, 1) by decide +kernel) rfl rfl ?_
  refine tr_bipush (pc' := 618) (v := (95 : Int32)) (show decode cX10_init 616 = .ok (.bipush 95, 2) by decide +kernel) rfl (by decide) ?_
  refine tr_bipush (pc' := 620) (v := (108 : Int32)) (show decode cX10_init 618 = .ok (.bipush 108, 2) by decide +kernel) rfl (by decide) ?_
  refine tr_bast (pc' := 621) (show decode cX10_init 620 = .ok (.bastore, 1) by decide +kernel) rfl ha (by decide) ?_
  replace ha := ar_wI (b := 185) (j := ((95 : Int32)).toNatClampNeg) (v := vp_nar .byte (108 : Int32)) ha
  exact K
def i_Wc621 (μ : hm_M) : hm_M := hm_wI (hm_wI (hm_wI (hm_wI (hm_wI (hm_wI (hm_wI (hm_wI (hm_wI (hm_wI (hm_wI (hm_wI (hm_wI (hm_wI (hm_wI (hm_wI (μ) 185 ((96 : Int32)).toNatClampNeg (vp_nar .byte (32 : Int32))) 185 ((97 : Int32)).toNatClampNeg (vp_nar .byte (104 : Int32))) 185 ((98 : Int32)).toNatClampNeg (vp_nar .byte (97 : Int32))) 185 ((99 : Int32)).toNatClampNeg (vp_nar .byte (110 : Int32))) 185 ((100 : Int32)).toNatClampNeg (vp_nar .byte (100 : Int32))) 185 ((101 : Int32)).toNatClampNeg (vp_nar .byte (115 : Int32))) 185 ((102 : Int32)).toNatClampNeg (vp_nar .byte (32 : Int32))) 185 ((103 : Int32)).toNatClampNeg (vp_nar .byte (116 : Int32))) 185 ((104 : Int32)).toNatClampNeg (vp_nar .byte (97 : Int32))) 185 ((105 : Int32)).toNatClampNeg (vp_nar .byte (107 : Int32))) 185 ((106 : Int32)).toNatClampNeg (vp_nar .byte (101 : Int32))) 185 ((107 : Int32)).toNatClampNeg (vp_nar .byte (32 : Int32))) 185 ((108 : Int32)).toNatClampNeg (vp_nar .byte (119 : Int32))) 185 ((109 : Int32)).toNatClampNeg (vp_nar .byte (105 : Int32))) 185 ((110 : Int32)).toNatClampNeg (vp_nar .byte (116 : Int32))) 185 ((111 : Int32)).toNatClampNeg (vp_nar .byte (104 : Int32))
theorem sh_i_Wc621 {μ : hm_M} {o n : Nat} {ks : List (Nat × Nat)} (h : hm_sh μ o n ks) : hm_sh (i_Wc621 μ) o n ks := sh_same h rfl
theorem rf_i_Wc621 {μ : hm_M} {a j : Nat} {x : Option Nat} (h : μ.2.2.1 a j = x) : (i_Wc621 μ).2.2.1 a j = x := h
set_option maxRecDepth 100000 in
theorem i_Wc621_T {Λ : hm_M → Prop} {fr kc ks : Nat} {r : Option Value} {μ μ' : hm_M} {lv : List (Option Value)} {st : List Value} (ha : hm_ar μ 185 11 143) (K : hm_T Λ m_X10_init fr kc ks r μ' 717 lv (.ref 185 :: st) (i_Wc621 μ)) : hm_T Λ m_X10_init fr kc ks r μ' 621 lv (.ref 185 :: st) μ := by
  refine tr_dup (pc' := 622) (show decode cX10_init 621 = .ok (.dup, 1) by decide +kernel) rfl rfl ?_
  refine tr_bipush (pc' := 624) (v := (96 : Int32)) (show decode cX10_init 622 = .ok (.bipush 96, 2) by decide +kernel) rfl (by decide) ?_
  refine tr_bipush (pc' := 626) (v := (32 : Int32)) (show decode cX10_init 624 = .ok (.bipush 32, 2) by decide +kernel) rfl (by decide) ?_
  refine tr_bast (pc' := 627) (show decode cX10_init 626 = .ok (.bastore, 1) by decide +kernel) rfl ha (by decide) ?_
  replace ha := ar_wI (b := 185) (j := ((96 : Int32)).toNatClampNeg) (v := vp_nar .byte (32 : Int32)) ha
  refine tr_dup (pc' := 628) (show decode cX10_init 627 = .ok (.dup, 1) by decide +kernel) rfl rfl ?_
  refine tr_bipush (pc' := 630) (v := (97 : Int32)) (show decode cX10_init 628 = .ok (.bipush 97, 2) by decide +kernel) rfl (by decide) ?_
  refine tr_bipush (pc' := 632) (v := (104 : Int32)) (show decode cX10_init 630 = .ok (.bipush 104, 2) by decide +kernel) rfl (by decide) ?_
  refine tr_bast (pc' := 633) (show decode cX10_init 632 = .ok (.bastore, 1) by decide +kernel) rfl ha (by decide) ?_
  replace ha := ar_wI (b := 185) (j := ((97 : Int32)).toNatClampNeg) (v := vp_nar .byte (104 : Int32)) ha
  refine tr_dup (pc' := 634) (show decode cX10_init 633 = .ok (.dup, 1) by decide +kernel) rfl rfl ?_
  refine tr_bipush (pc' := 636) (v := (98 : Int32)) (show decode cX10_init 634 = .ok (.bipush 98, 2) by decide +kernel) rfl (by decide) ?_
  refine tr_bipush (pc' := 638) (v := (97 : Int32)) (show decode cX10_init 636 = .ok (.bipush 97, 2) by decide +kernel) rfl (by decide) ?_
  refine tr_bast (pc' := 639) (show decode cX10_init 638 = .ok (.bastore, 1) by decide +kernel) rfl ha (by decide) ?_
  replace ha := ar_wI (b := 185) (j := ((98 : Int32)).toNatClampNeg) (v := vp_nar .byte (97 : Int32)) ha
  refine tr_dup (pc' := 640) (show decode cX10_init 639 = .ok (.dup, 1) by decide +kernel) rfl rfl ?_
  refine tr_bipush (pc' := 642) (v := (99 : Int32)) (show decode cX10_init 640 = .ok (.bipush 99, 2) by decide +kernel) rfl (by decide) ?_
  refine tr_bipush (pc' := 644) (v := (110 : Int32)) (show decode cX10_init 642 = .ok (.bipush 110, 2) by decide +kernel) rfl (by decide) ?_
  refine tr_bast (pc' := 645) (show decode cX10_init 644 = .ok (.bastore, 1) by decide +kernel) rfl ha (by decide) ?_
  replace ha := ar_wI (b := 185) (j := ((99 : Int32)).toNatClampNeg) (v := vp_nar .byte (110 : Int32)) ha
  refine tr_dup (pc' := 646) (show decode cX10_init 645 = .ok (.dup, 1) by decide +kernel) rfl rfl ?_
  refine tr_bipush (pc' := 648) (v := (100 : Int32)) (show decode cX10_init 646 = .ok (.bipush 100, 2) by decide +kernel) rfl (by decide) ?_
  refine tr_bipush (pc' := 650) (v := (100 : Int32)) (show decode cX10_init 648 = .ok (.bipush 100, 2) by decide +kernel) rfl (by decide) ?_
  refine tr_bast (pc' := 651) (show decode cX10_init 650 = .ok (.bastore, 1) by decide +kernel) rfl ha (by decide) ?_
  replace ha := ar_wI (b := 185) (j := ((100 : Int32)).toNatClampNeg) (v := vp_nar .byte (100 : Int32)) ha
  refine tr_dup (pc' := 652) (show decode cX10_init 651 = .ok (.dup, 1) by decide +kernel) rfl rfl ?_
  refine tr_bipush (pc' := 654) (v := (101 : Int32)) (show decode cX10_init 652 = .ok (.bipush 101, 2) by decide +kernel) rfl (by decide) ?_
  refine tr_bipush (pc' := 656) (v := (115 : Int32)) (show decode cX10_init 654 = .ok (.bipush 115, 2) by decide +kernel) rfl (by decide) ?_
  refine tr_bast (pc' := 657) (show decode cX10_init 656 = .ok (.bastore, 1) by decide +kernel) rfl ha (by decide) ?_
  replace ha := ar_wI (b := 185) (j := ((101 : Int32)).toNatClampNeg) (v := vp_nar .byte (115 : Int32)) ha
  refine tr_dup (pc' := 658) (show decode cX10_init 657 = .ok (.dup, 1) by decide +kernel) rfl rfl ?_
  refine tr_bipush (pc' := 660) (v := (102 : Int32)) (show decode cX10_init 658 = .ok (.bipush 102, 2) by decide +kernel) rfl (by decide) ?_
  refine tr_bipush (pc' := 662) (v := (32 : Int32)) (show decode cX10_init 660 = .ok (.bipush 32, 2) by decide +kernel) rfl (by decide) ?_
  refine tr_bast (pc' := 663) (show decode cX10_init 662 = .ok (.bastore, 1) by decide +kernel) rfl ha (by decide) ?_
  replace ha := ar_wI (b := 185) (j := ((102 : Int32)).toNatClampNeg) (v := vp_nar .byte (32 : Int32)) ha
  refine tr_dup (pc' := 664) (show decode cX10_init 663 = .ok (.dup, 1) by decide +kernel) rfl rfl ?_
  refine tr_bipush (pc' := 666) (v := (103 : Int32)) (show decode cX10_init 664 = .ok (.bipush 103, 2) by decide +kernel) rfl (by decide) ?_
  refine tr_bipush (pc' := 668) (v := (116 : Int32)) (show decode cX10_init 666 = .ok (.bipush 116, 2) by decide +kernel) rfl (by decide) ?_
  refine tr_bast (pc' := 669) (show decode cX10_init 668 = .ok (.bastore, 1) by decide +kernel) rfl ha (by decide) ?_
  replace ha := ar_wI (b := 185) (j := ((103 : Int32)).toNatClampNeg) (v := vp_nar .byte (116 : Int32)) ha
  refine tr_dup (pc' := 670) (show decode cX10_init 669 = .ok (.dup, 1) by decide +kernel) rfl rfl ?_
  refine tr_bipush (pc' := 672) (v := (104 : Int32)) (show decode cX10_init 670 = .ok (.bipush 104, 2) by decide +kernel) rfl (by decide) ?_
  refine tr_bipush (pc' := 674) (v := (97 : Int32)) (show decode cX10_init 672 = .ok (.bipush 97, 2) by decide +kernel) rfl (by decide) ?_
  refine tr_bast (pc' := 675) (show decode cX10_init 674 = .ok (.bastore, 1) by decide +kernel) rfl ha (by decide) ?_
  replace ha := ar_wI (b := 185) (j := ((104 : Int32)).toNatClampNeg) (v := vp_nar .byte (97 : Int32)) ha
  refine tr_dup (pc' := 676) (show decode cX10_init 675 = .ok (.dup, 1) by decide +kernel) rfl rfl ?_
  refine tr_bipush (pc' := 678) (v := (105 : Int32)) (show decode cX10_init 676 = .ok (.bipush 105, 2) by decide +kernel) rfl (by decide) ?_
  refine tr_bipush (pc' := 680) (v := (107 : Int32)) (show decode cX10_init 678 = .ok (.bipush 107, 2) by decide +kernel) rfl (by decide) ?_
  refine tr_bast (pc' := 681) (show decode cX10_init 680 = .ok (.bastore, 1) by decide +kernel) rfl ha (by decide) ?_
  replace ha := ar_wI (b := 185) (j := ((105 : Int32)).toNatClampNeg) (v := vp_nar .byte (107 : Int32)) ha
  refine tr_dup (pc' := 682) (show decode cX10_init 681 = .ok (.dup, 1) by decide +kernel) rfl rfl ?_
  refine tr_bipush (pc' := 684) (v := (106 : Int32)) (show decode cX10_init 682 = .ok (.bipush 106, 2) by decide +kernel) rfl (by decide) ?_
  refine tr_bipush (pc' := 686) (v := (101 : Int32)) (show decode cX10_init 684 = .ok (.bipush 101, 2) by decide +kernel) rfl (by decide) ?_
  refine tr_bast (pc' := 687) (show decode cX10_init 686 = .ok (.bastore, 1) by decide +kernel) rfl ha (by decide) ?_
  replace ha := ar_wI (b := 185) (j := ((106 : Int32)).toNatClampNeg) (v := vp_nar .byte (101 : Int32)) ha
  refine tr_dup (pc' := 688) (show decode cX10_init 687 = .ok (.dup, 1) by decide +kernel) rfl rfl ?_
  refine tr_bipush (pc' := 690) (v := (107 : Int32)) (show decode cX10_init 688 = .ok (.bipush 107, 2) by decide +kernel) rfl (by decide) ?_
  refine tr_bipush (pc' := 692) (v := (32 : Int32)) (show decode cX10_init 690 = .ok (.bipush 32, 2) by decide +kernel) rfl (by decide) ?_
  refine tr_bast (pc' := 693) (show decode cX10_init 692 = .ok (.bastore, 1) by decide +kernel) rfl ha (by decide) ?_
  replace ha := ar_wI (b := 185) (j := ((107 : Int32)).toNatClampNeg) (v := vp_nar .byte (32 : Int32)) ha
  refine tr_dup (pc' := 694) (show decode cX10_init 693 = .ok (.dup, 1) by decide +kernel) rfl rfl ?_
  refine tr_bipush (pc' := 696) (v := (108 : Int32)) (show decode cX10_init 694 = .ok (.bipush 108, 2) by decide +kernel) rfl (by decide) ?_
  refine tr_bipush (pc' := 698) (v := (119 : Int32)) (show decode cX10_init 696 = .ok (.bipush 119, 2) by decide +kernel) rfl (by decide) ?_
  refine tr_bast (pc' := 699) (show decode cX10_init 698 = .ok (.bastore, 1) by decide +kernel) rfl ha (by decide) ?_
  replace ha := ar_wI (b := 185) (j := ((108 : Int32)).toNatClampNeg) (v := vp_nar .byte (119 : Int32)) ha
  refine tr_dup (pc' := 700) (show decode cX10_init 699 = .ok (.dup, 1) by decide +kernel) rfl rfl ?_
  refine tr_bipush (pc' := 702) (v := (109 : Int32)) (show decode cX10_init 700 = .ok (.bipush 109, 2) by decide +kernel) rfl (by decide) ?_
  refine tr_bipush (pc' := 704) (v := (105 : Int32)) (show decode cX10_init 702 = .ok (.bipush 105, 2) by decide +kernel) rfl (by decide) ?_
  refine tr_bast (pc' := 705) (show decode cX10_init 704 = .ok (.bastore, 1) by decide +kernel) rfl ha (by decide) ?_
  replace ha := ar_wI (b := 185) (j := ((109 : Int32)).toNatClampNeg) (v := vp_nar .byte (105 : Int32)) ha
  refine tr_dup (pc' := 706) (show decode cX10_init 705 = .ok (.dup, 1) by decide +kernel) rfl rfl ?_
  refine tr_bipush (pc' := 708) (v := (110 : Int32)) (show decode cX10_init 706 = .ok (.bipush 110, 2) by decide +kernel) rfl (by decide) ?_
  refine tr_bipush (pc' := 710) (v := (116 : Int32)) (show decode cX10_init 708 = .ok (.bipush 116, 2) by decide +kernel) rfl (by decide) ?_
  refine tr_bast (pc' := 711) (show decode cX10_init 710 = .ok (.bastore, 1) by decide +kernel) rfl ha (by decide) ?_
  replace ha := ar_wI (b := 185) (j := ((110 : Int32)).toNatClampNeg) (v := vp_nar .byte (116 : Int32)) ha
  refine tr_dup (pc' := 712) (show decode cX10_init 711 = .ok (.dup, 1) by decide +kernel) rfl rfl ?_
  refine tr_bipush (pc' := 714) (v := (111 : Int32)) (show decode cX10_init 712 = .ok (.bipush 111, 2) by decide +kernel) rfl (by decide) ?_
  refine tr_bipush (pc' := 716) (v := (104 : Int32)) (show decode cX10_init 714 = .ok (.bipush 104, 2) by decide +kernel) rfl (by decide) ?_
  refine tr_bast (pc' := 717) (show decode cX10_init 716 = .ok (.bastore, 1) by decide +kernel) rfl ha (by decide) ?_
  replace ha := ar_wI (b := 185) (j := ((111 : Int32)).toNatClampNeg) (v := vp_nar .byte (104 : Int32)) ha
  exact K
def i_Wc717 (μ : hm_M) : hm_M := hm_wI (hm_wI (hm_wI (hm_wI (hm_wI (hm_wI (hm_wI (hm_wI (hm_wI (hm_wI (hm_wI (hm_wI (hm_wI (hm_wI (hm_wI (hm_wI (μ) 185 ((112 : Int32)).toNatClampNeg (vp_nar .byte (32 : Int32))) 185 ((113 : Int32)).toNatClampNeg (vp_nar .byte (108 : Int32))) 185 ((114 : Int32)).toNatClampNeg (vp_nar .byte (111 : Int32))) 185 ((115 : Int32)).toNatClampNeg (vp_nar .byte (111 : Int32))) 185 ((116 : Int32)).toNatClampNeg (vp_nar .byte (115 : Int32))) 185 ((117 : Int32)).toNatClampNeg (vp_nar .byte (101 : Int32))) 185 ((118 : Int32)).toNatClampNeg (vp_nar .byte (32 : Int32))) 185 ((119 : Int32)).toNatClampNeg (vp_nar .byte (102 : Int32))) 185 ((120 : Int32)).toNatClampNeg (vp_nar .byte (114 : Int32))) 185 ((121 : Int32)).toNatClampNeg (vp_nar .byte (111 : Int32))) 185 ((122 : Int32)).toNatClampNeg (vp_nar .byte (109 : Int32))) 185 ((123 : Int32)).toNatClampNeg (vp_nar .byte (32 : Int32))) 185 ((124 : Int32)).toNatClampNeg (vp_nar .byte (119 : Int32))) 185 ((125 : Int32)).toNatClampNeg (vp_nar .byte (97 : Int32))) 185 ((126 : Int32)).toNatClampNeg (vp_nar .byte (108 : Int32))) 185 ((127 : Int32)).toNatClampNeg (vp_nar .byte (107 : Int32))
theorem sh_i_Wc717 {μ : hm_M} {o n : Nat} {ks : List (Nat × Nat)} (h : hm_sh μ o n ks) : hm_sh (i_Wc717 μ) o n ks := sh_same h rfl
theorem rf_i_Wc717 {μ : hm_M} {a j : Nat} {x : Option Nat} (h : μ.2.2.1 a j = x) : (i_Wc717 μ).2.2.1 a j = x := h
set_option maxRecDepth 100000 in
theorem i_Wc717_T {Λ : hm_M → Prop} {fr kc ks : Nat} {r : Option Value} {μ μ' : hm_M} {lv : List (Option Value)} {st : List Value} (ha : hm_ar μ 185 11 143) (K : hm_T Λ m_X10_init fr kc ks r μ' 813 lv (.ref 185 :: st) (i_Wc717 μ)) : hm_T Λ m_X10_init fr kc ks r μ' 717 lv (.ref 185 :: st) μ := by
  refine tr_dup (pc' := 718) (show decode cX10_init 717 = .ok (.dup, 1) by decide +kernel) rfl rfl ?_
  refine tr_bipush (pc' := 720) (v := (112 : Int32)) (show decode cX10_init 718 = .ok (.bipush 112, 2) by decide +kernel) rfl (by decide) ?_
  refine tr_bipush (pc' := 722) (v := (32 : Int32)) (show decode cX10_init 720 = .ok (.bipush 32, 2) by decide +kernel) rfl (by decide) ?_
  refine tr_bast (pc' := 723) (show decode cX10_init 722 = .ok (.bastore, 1) by decide +kernel) rfl ha (by decide) ?_
  replace ha := ar_wI (b := 185) (j := ((112 : Int32)).toNatClampNeg) (v := vp_nar .byte (32 : Int32)) ha
  refine tr_dup (pc' := 724) (show decode cX10_init 723 = .ok (.dup, 1) by decide +kernel) rfl rfl ?_
  refine tr_bipush (pc' := 726) (v := (113 : Int32)) (show decode cX10_init 724 = .ok (.bipush 113, 2) by decide +kernel) rfl (by decide) ?_
  refine tr_bipush (pc' := 728) (v := (108 : Int32)) (show decode cX10_init 726 = .ok (.bipush 108, 2) by decide +kernel) rfl (by decide) ?_
  refine tr_bast (pc' := 729) (show decode cX10_init 728 = .ok (.bastore, 1) by decide +kernel) rfl ha (by decide) ?_
  replace ha := ar_wI (b := 185) (j := ((113 : Int32)).toNatClampNeg) (v := vp_nar .byte (108 : Int32)) ha
  refine tr_dup (pc' := 730) (show decode cX10_init 729 = .ok (.dup, 1) by decide +kernel) rfl rfl ?_
  refine tr_bipush (pc' := 732) (v := (114 : Int32)) (show decode cX10_init 730 = .ok (.bipush 114, 2) by decide +kernel) rfl (by decide) ?_
  refine tr_bipush (pc' := 734) (v := (111 : Int32)) (show decode cX10_init 732 = .ok (.bipush 111, 2) by decide +kernel) rfl (by decide) ?_
  refine tr_bast (pc' := 735) (show decode cX10_init 734 = .ok (.bastore, 1) by decide +kernel) rfl ha (by decide) ?_
  replace ha := ar_wI (b := 185) (j := ((114 : Int32)).toNatClampNeg) (v := vp_nar .byte (111 : Int32)) ha
  refine tr_dup (pc' := 736) (show decode cX10_init 735 = .ok (.dup, 1) by decide +kernel) rfl rfl ?_
  refine tr_bipush (pc' := 738) (v := (115 : Int32)) (show decode cX10_init 736 = .ok (.bipush 115, 2) by decide +kernel) rfl (by decide) ?_
  refine tr_bipush (pc' := 740) (v := (111 : Int32)) (show decode cX10_init 738 = .ok (.bipush 111, 2) by decide +kernel) rfl (by decide) ?_
  refine tr_bast (pc' := 741) (show decode cX10_init 740 = .ok (.bastore, 1) by decide +kernel) rfl ha (by decide) ?_
  replace ha := ar_wI (b := 185) (j := ((115 : Int32)).toNatClampNeg) (v := vp_nar .byte (111 : Int32)) ha
  refine tr_dup (pc' := 742) (show decode cX10_init 741 = .ok (.dup, 1) by decide +kernel) rfl rfl ?_
  refine tr_bipush (pc' := 744) (v := (116 : Int32)) (show decode cX10_init 742 = .ok (.bipush 116, 2) by decide +kernel) rfl (by decide) ?_
  refine tr_bipush (pc' := 746) (v := (115 : Int32)) (show decode cX10_init 744 = .ok (.bipush 115, 2) by decide +kernel) rfl (by decide) ?_
  refine tr_bast (pc' := 747) (show decode cX10_init 746 = .ok (.bastore, 1) by decide +kernel) rfl ha (by decide) ?_
  replace ha := ar_wI (b := 185) (j := ((116 : Int32)).toNatClampNeg) (v := vp_nar .byte (115 : Int32)) ha
  refine tr_dup (pc' := 748) (show decode cX10_init 747 = .ok (.dup, 1) by decide +kernel) rfl rfl ?_
  refine tr_bipush (pc' := 750) (v := (117 : Int32)) (show decode cX10_init 748 = .ok (.bipush 117, 2) by decide +kernel) rfl (by decide) ?_
  refine tr_bipush (pc' := 752) (v := (101 : Int32)) (show decode cX10_init 750 = .ok (.bipush 101, 2) by decide +kernel) rfl (by decide) ?_
  refine tr_bast (pc' := 753) (show decode cX10_init 752 = .ok (.bastore, 1) by decide +kernel) rfl ha (by decide) ?_
  replace ha := ar_wI (b := 185) (j := ((117 : Int32)).toNatClampNeg) (v := vp_nar .byte (101 : Int32)) ha
  refine tr_dup (pc' := 754) (show decode cX10_init 753 = .ok (.dup, 1) by decide +kernel) rfl rfl ?_
  refine tr_bipush (pc' := 756) (v := (118 : Int32)) (show decode cX10_init 754 = .ok (.bipush 118, 2) by decide +kernel) rfl (by decide) ?_
  refine tr_bipush (pc' := 758) (v := (32 : Int32)) (show decode cX10_init 756 = .ok (.bipush 32, 2) by decide +kernel) rfl (by decide) ?_
  refine tr_bast (pc' := 759) (show decode cX10_init 758 = .ok (.bastore, 1) by decide +kernel) rfl ha (by decide) ?_
  replace ha := ar_wI (b := 185) (j := ((118 : Int32)).toNatClampNeg) (v := vp_nar .byte (32 : Int32)) ha
  refine tr_dup (pc' := 760) (show decode cX10_init 759 = .ok (.dup, 1) by decide +kernel) rfl rfl ?_
  refine tr_bipush (pc' := 762) (v := (119 : Int32)) (show decode cX10_init 760 = .ok (.bipush 119, 2) by decide +kernel) rfl (by decide) ?_
  refine tr_bipush (pc' := 764) (v := (102 : Int32)) (show decode cX10_init 762 = .ok (.bipush 102, 2) by decide +kernel) rfl (by decide) ?_
  refine tr_bast (pc' := 765) (show decode cX10_init 764 = .ok (.bastore, 1) by decide +kernel) rfl ha (by decide) ?_
  replace ha := ar_wI (b := 185) (j := ((119 : Int32)).toNatClampNeg) (v := vp_nar .byte (102 : Int32)) ha
  refine tr_dup (pc' := 766) (show decode cX10_init 765 = .ok (.dup, 1) by decide +kernel) rfl rfl ?_
  refine tr_bipush (pc' := 768) (v := (120 : Int32)) (show decode cX10_init 766 = .ok (.bipush 120, 2) by decide +kernel) rfl (by decide) ?_
  refine tr_bipush (pc' := 770) (v := (114 : Int32)) (show decode cX10_init 768 = .ok (.bipush 114, 2) by decide +kernel) rfl (by decide) ?_
  refine tr_bast (pc' := 771) (show decode cX10_init 770 = .ok (.bastore, 1) by decide +kernel) rfl ha (by decide) ?_
  replace ha := ar_wI (b := 185) (j := ((120 : Int32)).toNatClampNeg) (v := vp_nar .byte (114 : Int32)) ha
  refine tr_dup (pc' := 772) (show decode cX10_init 771 = .ok (.dup, 1) by decide +kernel) rfl rfl ?_
  refine tr_bipush (pc' := 774) (v := (121 : Int32)) (show decode cX10_init 772 = .ok (.bipush 121, 2) by decide +kernel) rfl (by decide) ?_
  refine tr_bipush (pc' := 776) (v := (111 : Int32)) (show decode cX10_init 774 = .ok (.bipush 111, 2) by decide +kernel) rfl (by decide) ?_
  refine tr_bast (pc' := 777) (show decode cX10_init 776 = .ok (.bastore, 1) by decide +kernel) rfl ha (by decide) ?_
  replace ha := ar_wI (b := 185) (j := ((121 : Int32)).toNatClampNeg) (v := vp_nar .byte (111 : Int32)) ha
  refine tr_dup (pc' := 778) (show decode cX10_init 777 = .ok (.dup, 1) by decide +kernel) rfl rfl ?_
  refine tr_bipush (pc' := 780) (v := (122 : Int32)) (show decode cX10_init 778 = .ok (.bipush 122, 2) by decide +kernel) rfl (by decide) ?_
  refine tr_bipush (pc' := 782) (v := (109 : Int32)) (show decode cX10_init 780 = .ok (.bipush 109, 2) by decide +kernel) rfl (by decide) ?_
  refine tr_bast (pc' := 783) (show decode cX10_init 782 = .ok (.bastore, 1) by decide +kernel) rfl ha (by decide) ?_
  replace ha := ar_wI (b := 185) (j := ((122 : Int32)).toNatClampNeg) (v := vp_nar .byte (109 : Int32)) ha
  refine tr_dup (pc' := 784) (show decode cX10_init 783 = .ok (.dup, 1) by decide +kernel) rfl rfl ?_
  refine tr_bipush (pc' := 786) (v := (123 : Int32)) (show decode cX10_init 784 = .ok (.bipush 123, 2) by decide +kernel) rfl (by decide) ?_
  refine tr_bipush (pc' := 788) (v := (32 : Int32)) (show decode cX10_init 786 = .ok (.bipush 32, 2) by decide +kernel) rfl (by decide) ?_
  refine tr_bast (pc' := 789) (show decode cX10_init 788 = .ok (.bastore, 1) by decide +kernel) rfl ha (by decide) ?_
  replace ha := ar_wI (b := 185) (j := ((123 : Int32)).toNatClampNeg) (v := vp_nar .byte (32 : Int32)) ha
  refine tr_dup (pc' := 790) (show decode cX10_init 789 = .ok (.dup, 1) by decide +kernel) rfl rfl ?_
  refine tr_bipush (pc' := 792) (v := (124 : Int32)) (show decode cX10_init 790 = .ok (.bipush 124, 2) by decide +kernel) rfl (by decide) ?_
  refine tr_bipush (pc' := 794) (v := (119 : Int32)) (show decode cX10_init 792 = .ok (.bipush 119, 2) by decide +kernel) rfl (by decide) ?_
  refine tr_bast (pc' := 795) (show decode cX10_init 794 = .ok (.bastore, 1) by decide +kernel) rfl ha (by decide) ?_
  replace ha := ar_wI (b := 185) (j := ((124 : Int32)).toNatClampNeg) (v := vp_nar .byte (119 : Int32)) ha
  refine tr_dup (pc' := 796) (show decode cX10_init 795 = .ok (.dup, 1) by decide +kernel) rfl rfl ?_
  refine tr_bipush (pc' := 798) (v := (125 : Int32)) (show decode cX10_init 796 = .ok (.bipush 125, 2) by decide +kernel) rfl (by decide) ?_
  refine tr_bipush (pc' := 800) (v := (97 : Int32)) (show decode cX10_init 798 = .ok (.bipush 97, 2) by decide +kernel) rfl (by decide) ?_
  refine tr_bast (pc' := 801) (show decode cX10_init 800 = .ok (.bastore, 1) by decide +kernel) rfl ha (by decide) ?_
  replace ha := ar_wI (b := 185) (j := ((125 : Int32)).toNatClampNeg) (v := vp_nar .byte (97 : Int32)) ha
  refine tr_dup (pc' := 802) (show decode cX10_init 801 = .ok (.dup, 1) by decide +kernel) rfl rfl ?_
  refine tr_bipush (pc' := 804) (v := (126 : Int32)) (show decode cX10_init 802 = .ok (.bipush 126, 2) by decide +kernel) rfl (by decide) ?_
  refine tr_bipush (pc' := 806) (v := (108 : Int32)) (show decode cX10_init 804 = .ok (.bipush 108, 2) by decide +kernel) rfl (by decide) ?_
  refine tr_bast (pc' := 807) (show decode cX10_init 806 = .ok (.bastore, 1) by decide +kernel) rfl ha (by decide) ?_
  replace ha := ar_wI (b := 185) (j := ((126 : Int32)).toNatClampNeg) (v := vp_nar .byte (108 : Int32)) ha
  refine tr_dup (pc' := 808) (show decode cX10_init 807 = .ok (.dup, 1) by decide +kernel) rfl rfl ?_
  refine tr_bipush (pc' := 810) (v := (127 : Int32)) (show decode cX10_init 808 = .ok (.bipush 127, 2) by decide +kernel) rfl (by decide) ?_
  refine tr_bipush (pc' := 812) (v := (107 : Int32)) (show decode cX10_init 810 = .ok (.bipush 107, 2) by decide +kernel) rfl (by decide) ?_
  refine tr_bast (pc' := 813) (show decode cX10_init 812 = .ok (.bastore, 1) by decide +kernel) rfl ha (by decide) ?_
  replace ha := ar_wI (b := 185) (j := ((127 : Int32)).toNatClampNeg) (v := vp_nar .byte (107 : Int32)) ha
  exact K
def i_Wc813 (μ : hm_M) : hm_M := hm_wI (hm_wI (hm_wI (hm_wI (hm_wI (hm_wI (hm_wI (hm_wI (hm_wI (hm_wI (hm_wI (hm_wI (hm_wI (hm_wI (hm_wI (μ) 185 ((128 : Int32)).toNatClampNeg (vp_nar .byte (32 : Int32))) 185 ((129 : Int32)).toNatClampNeg (vp_nar .byte (116 : Int32))) 185 ((130 : Int32)).toNatClampNeg (vp_nar .byte (111 : Int32))) 185 ((131 : Int32)).toNatClampNeg (vp_nar .byte (32 : Int32))) 185 ((132 : Int32)).toNatClampNeg (vp_nar .byte (112 : Int32))) 185 ((133 : Int32)).toNatClampNeg (vp_nar .byte (97 : Int32))) 185 ((134 : Int32)).toNatClampNeg (vp_nar .byte (115 : Int32))) 185 ((135 : Int32)).toNatClampNeg (vp_nar .byte (115 : Int32))) 185 ((136 : Int32)).toNatClampNeg (vp_nar .byte (32 : Int32))) 185 ((137 : Int32)).toNatClampNeg (vp_nar .byte (116 : Int32))) 185 ((138 : Int32)).toNatClampNeg (vp_nar .byte (105 : Int32))) 185 ((139 : Int32)).toNatClampNeg (vp_nar .byte (109 : Int32))) 185 ((140 : Int32)).toNatClampNeg (vp_nar .byte (101 : Int32))) 185 ((141 : Int32)).toNatClampNeg (vp_nar .byte (115 : Int32))) 185 ((142 : Int32)).toNatClampNeg (vp_nar .byte (32 : Int32))
theorem sh_i_Wc813 {μ : hm_M} {o n : Nat} {ks : List (Nat × Nat)} (h : hm_sh μ o n ks) : hm_sh (i_Wc813 μ) o n ks := sh_same h rfl
theorem rf_i_Wc813 {μ : hm_M} {a j : Nat} {x : Option Nat} (h : μ.2.2.1 a j = x) : (i_Wc813 μ).2.2.1 a j = x := h
set_option maxRecDepth 100000 in
theorem i_Wc813_T {Λ : hm_M → Prop} {fr kc ks : Nat} {r : Option Value} {μ μ' : hm_M} {lv : List (Option Value)} {st : List Value} (ha : hm_ar μ 185 11 143) (K : hm_T Λ m_X10_init fr kc ks r μ' 918 lv (.ref 185 :: st) (i_Wc813 μ)) : hm_T Λ m_X10_init fr kc ks r μ' 813 lv (.ref 185 :: st) μ := by
  refine tr_dup (pc' := 814) (show decode cX10_init 813 = .ok (.dup, 1) by decide +kernel) rfl rfl ?_
  refine tr_sipush (pc' := 817) (v := (128 : Int32)) (show decode cX10_init 814 = .ok (.sipush 128, 3) by decide +kernel) rfl (by decide) ?_
  refine tr_bipush (pc' := 819) (v := (32 : Int32)) (show decode cX10_init 817 = .ok (.bipush 32, 2) by decide +kernel) rfl (by decide) ?_
  refine tr_bast (pc' := 820) (show decode cX10_init 819 = .ok (.bastore, 1) by decide +kernel) rfl ha (by decide) ?_
  replace ha := ar_wI (b := 185) (j := ((128 : Int32)).toNatClampNeg) (v := vp_nar .byte (32 : Int32)) ha
  refine tr_dup (pc' := 821) (show decode cX10_init 820 = .ok (.dup, 1) by decide +kernel) rfl rfl ?_
  refine tr_sipush (pc' := 824) (v := (129 : Int32)) (show decode cX10_init 821 = .ok (.sipush 129, 3) by decide +kernel) rfl (by decide) ?_
  refine tr_bipush (pc' := 826) (v := (116 : Int32)) (show decode cX10_init 824 = .ok (.bipush 116, 2) by decide +kernel) rfl (by decide) ?_
  refine tr_bast (pc' := 827) (show decode cX10_init 826 = .ok (.bastore, 1) by decide +kernel) rfl ha (by decide) ?_
  replace ha := ar_wI (b := 185) (j := ((129 : Int32)).toNatClampNeg) (v := vp_nar .byte (116 : Int32)) ha
  refine tr_dup (pc' := 828) (show decode cX10_init 827 = .ok (.dup, 1) by decide +kernel) rfl rfl ?_
  refine tr_sipush (pc' := 831) (v := (130 : Int32)) (show decode cX10_init 828 = .ok (.sipush 130, 3) by decide +kernel) rfl (by decide) ?_
  refine tr_bipush (pc' := 833) (v := (111 : Int32)) (show decode cX10_init 831 = .ok (.bipush 111, 2) by decide +kernel) rfl (by decide) ?_
  refine tr_bast (pc' := 834) (show decode cX10_init 833 = .ok (.bastore, 1) by decide +kernel) rfl ha (by decide) ?_
  replace ha := ar_wI (b := 185) (j := ((130 : Int32)).toNatClampNeg) (v := vp_nar .byte (111 : Int32)) ha
  refine tr_dup (pc' := 835) (show decode cX10_init 834 = .ok (.dup, 1) by decide +kernel) rfl rfl ?_
  refine tr_sipush (pc' := 838) (v := (131 : Int32)) (show decode cX10_init 835 = .ok (.sipush 131, 3) by decide +kernel) rfl (by decide) ?_
  refine tr_bipush (pc' := 840) (v := (32 : Int32)) (show decode cX10_init 838 = .ok (.bipush 32, 2) by decide +kernel) rfl (by decide) ?_
  refine tr_bast (pc' := 841) (show decode cX10_init 840 = .ok (.bastore, 1) by decide +kernel) rfl ha (by decide) ?_
  replace ha := ar_wI (b := 185) (j := ((131 : Int32)).toNatClampNeg) (v := vp_nar .byte (32 : Int32)) ha
  refine tr_dup (pc' := 842) (show decode cX10_init 841 = .ok (.dup, 1) by decide +kernel) rfl rfl ?_
  refine tr_sipush (pc' := 845) (v := (132 : Int32)) (show decode cX10_init 842 = .ok (.sipush 132, 3) by decide +kernel) rfl (by decide) ?_
  refine tr_bipush (pc' := 847) (v := (112 : Int32)) (show decode cX10_init 845 = .ok (.bipush 112, 2) by decide +kernel) rfl (by decide) ?_
  refine tr_bast (pc' := 848) (show decode cX10_init 847 = .ok (.bastore, 1) by decide +kernel) rfl ha (by decide) ?_
  replace ha := ar_wI (b := 185) (j := ((132 : Int32)).toNatClampNeg) (v := vp_nar .byte (112 : Int32)) ha
  refine tr_dup (pc' := 849) (show decode cX10_init 848 = .ok (.dup, 1) by decide +kernel) rfl rfl ?_
  refine tr_sipush (pc' := 852) (v := (133 : Int32)) (show decode cX10_init 849 = .ok (.sipush 133, 3) by decide +kernel) rfl (by decide) ?_
  refine tr_bipush (pc' := 854) (v := (97 : Int32)) (show decode cX10_init 852 = .ok (.bipush 97, 2) by decide +kernel) rfl (by decide) ?_
  refine tr_bast (pc' := 855) (show decode cX10_init 854 = .ok (.bastore, 1) by decide +kernel) rfl ha (by decide) ?_
  replace ha := ar_wI (b := 185) (j := ((133 : Int32)).toNatClampNeg) (v := vp_nar .byte (97 : Int32)) ha
  refine tr_dup (pc' := 856) (show decode cX10_init 855 = .ok (.dup, 1) by decide +kernel) rfl rfl ?_
  refine tr_sipush (pc' := 859) (v := (134 : Int32)) (show decode cX10_init 856 = .ok (.sipush 134, 3) by decide +kernel) rfl (by decide) ?_
  refine tr_bipush (pc' := 861) (v := (115 : Int32)) (show decode cX10_init 859 = .ok (.bipush 115, 2) by decide +kernel) rfl (by decide) ?_
  refine tr_bast (pc' := 862) (show decode cX10_init 861 = .ok (.bastore, 1) by decide +kernel) rfl ha (by decide) ?_
  replace ha := ar_wI (b := 185) (j := ((134 : Int32)).toNatClampNeg) (v := vp_nar .byte (115 : Int32)) ha
  refine tr_dup (pc' := 863) (show decode cX10_init 862 = .ok (.dup, 1) by decide +kernel) rfl rfl ?_
  refine tr_sipush (pc' := 866) (v := (135 : Int32)) (show decode cX10_init 863 = .ok (.sipush 135, 3) by decide +kernel) rfl (by decide) ?_
  refine tr_bipush (pc' := 868) (v := (115 : Int32)) (show decode cX10_init 866 = .ok (.bipush 115, 2) by decide +kernel) rfl (by decide) ?_
  refine tr_bast (pc' := 869) (show decode cX10_init 868 = .ok (.bastore, 1) by decide +kernel) rfl ha (by decide) ?_
  replace ha := ar_wI (b := 185) (j := ((135 : Int32)).toNatClampNeg) (v := vp_nar .byte (115 : Int32)) ha
  refine tr_dup (pc' := 870) (show decode cX10_init 869 = .ok (.dup, 1) by decide +kernel) rfl rfl ?_
  refine tr_sipush (pc' := 873) (v := (136 : Int32)) (show decode cX10_init 870 = .ok (.sipush 136, 3) by decide +kernel) rfl (by decide) ?_
  refine tr_bipush (pc' := 875) (v := (32 : Int32)) (show decode cX10_init 873 = .ok (.bipush 32, 2) by decide +kernel) rfl (by decide) ?_
  refine tr_bast (pc' := 876) (show decode cX10_init 875 = .ok (.bastore, 1) by decide +kernel) rfl ha (by decide) ?_
  replace ha := ar_wI (b := 185) (j := ((136 : Int32)).toNatClampNeg) (v := vp_nar .byte (32 : Int32)) ha
  refine tr_dup (pc' := 877) (show decode cX10_init 876 = .ok (.dup, 1) by decide +kernel) rfl rfl ?_
  refine tr_sipush (pc' := 880) (v := (137 : Int32)) (show decode cX10_init 877 = .ok (.sipush 137, 3) by decide +kernel) rfl (by decide) ?_
  refine tr_bipush (pc' := 882) (v := (116 : Int32)) (show decode cX10_init 880 = .ok (.bipush 116, 2) by decide +kernel) rfl (by decide) ?_
  refine tr_bast (pc' := 883) (show decode cX10_init 882 = .ok (.bastore, 1) by decide +kernel) rfl ha (by decide) ?_
  replace ha := ar_wI (b := 185) (j := ((137 : Int32)).toNatClampNeg) (v := vp_nar .byte (116 : Int32)) ha
  refine tr_dup (pc' := 884) (show decode cX10_init 883 = .ok (.dup, 1) by decide +kernel) rfl rfl ?_
  refine tr_sipush (pc' := 887) (v := (138 : Int32)) (show decode cX10_init 884 = .ok (.sipush 138, 3) by decide +kernel) rfl (by decide) ?_
  refine tr_bipush (pc' := 889) (v := (105 : Int32)) (show decode cX10_init 887 = .ok (.bipush 105, 2) by decide +kernel) rfl (by decide) ?_
  refine tr_bast (pc' := 890) (show decode cX10_init 889 = .ok (.bastore, 1) by decide +kernel) rfl ha (by decide) ?_
  replace ha := ar_wI (b := 185) (j := ((138 : Int32)).toNatClampNeg) (v := vp_nar .byte (105 : Int32)) ha
  refine tr_dup (pc' := 891) (show decode cX10_init 890 = .ok (.dup, 1) by decide +kernel) rfl rfl ?_
  refine tr_sipush (pc' := 894) (v := (139 : Int32)) (show decode cX10_init 891 = .ok (.sipush 139, 3) by decide +kernel) rfl (by decide) ?_
  refine tr_bipush (pc' := 896) (v := (109 : Int32)) (show decode cX10_init 894 = .ok (.bipush 109, 2) by decide +kernel) rfl (by decide) ?_
  refine tr_bast (pc' := 897) (show decode cX10_init 896 = .ok (.bastore, 1) by decide +kernel) rfl ha (by decide) ?_
  replace ha := ar_wI (b := 185) (j := ((139 : Int32)).toNatClampNeg) (v := vp_nar .byte (109 : Int32)) ha
  refine tr_dup (pc' := 898) (show decode cX10_init 897 = .ok (.dup, 1) by decide +kernel) rfl rfl ?_
  refine tr_sipush (pc' := 901) (v := (140 : Int32)) (show decode cX10_init 898 = .ok (.sipush 140, 3) by decide +kernel) rfl (by decide) ?_
  refine tr_bipush (pc' := 903) (v := (101 : Int32)) (show decode cX10_init 901 = .ok (.bipush 101, 2) by decide +kernel) rfl (by decide) ?_
  refine tr_bast (pc' := 904) (show decode cX10_init 903 = .ok (.bastore, 1) by decide +kernel) rfl ha (by decide) ?_
  replace ha := ar_wI (b := 185) (j := ((140 : Int32)).toNatClampNeg) (v := vp_nar .byte (101 : Int32)) ha
  refine tr_dup (pc' := 905) (show decode cX10_init 904 = .ok (.dup, 1) by decide +kernel) rfl rfl ?_
  refine tr_sipush (pc' := 908) (v := (141 : Int32)) (show decode cX10_init 905 = .ok (.sipush 141, 3) by decide +kernel) rfl (by decide) ?_
  refine tr_bipush (pc' := 910) (v := (115 : Int32)) (show decode cX10_init 908 = .ok (.bipush 115, 2) by decide +kernel) rfl (by decide) ?_
  refine tr_bast (pc' := 911) (show decode cX10_init 910 = .ok (.bastore, 1) by decide +kernel) rfl ha (by decide) ?_
  replace ha := ar_wI (b := 185) (j := ((141 : Int32)).toNatClampNeg) (v := vp_nar .byte (115 : Int32)) ha
  refine tr_dup (pc' := 912) (show decode cX10_init 911 = .ok (.dup, 1) by decide +kernel) rfl rfl ?_
  refine tr_sipush (pc' := 915) (v := (142 : Int32)) (show decode cX10_init 912 = .ok (.sipush 142, 3) by decide +kernel) rfl (by decide) ?_
  refine tr_bipush (pc' := 917) (v := (32 : Int32)) (show decode cX10_init 915 = .ok (.bipush 32, 2) by decide +kernel) rfl (by decide) ?_
  refine tr_bast (pc' := 918) (show decode cX10_init 917 = .ok (.bastore, 1) by decide +kernel) rfl ha (by decide) ?_
  replace ha := ar_wI (b := 185) (j := ((142 : Int32)).toNatClampNeg) (v := vp_nar .byte (32 : Int32)) ha
  exact K
def i_X10 (μ : hm_M) : hm_M := hm_wI (hm_wI (hm_wI (hm_wI (hm_wR (hm_al (hm_wR (hm_al (hm_wI (hm_wR (hm_al (hm_wR (hm_al (hm_wR (hm_al (hm_wR (hm_al (hm_wR (hm_al (hm_wR (hm_al (hm_wR (hm_al (hm_wR (hm_al (hm_wR (hm_al (hm_wR (hm_al (hm_wR (hm_al (hm_wR (hm_al (hm_wR (hm_al (hm_wR (hm_al (hm_wR (hm_al (hm_wI (hm_wR (hm_al (hm_wR (hm_al (hm_wR (i_Wc813 (i_Wc717 (i_Wc621 (i_Wc525 (i_Wc429 (i_Wc333 (i_Wc237 (i_Wc141 (i_Wc51 (hm_al (hm_wR (hm_al (hm_wR (hm_al (hm_wR (hm_al (hm_wR (hm_al (hm_wR (hm_al (μ) 13 7) 179 1 (some (180))) 13 5665) 179 2 (some (181))) 13 11330) 179 3 (some (182))) 15 2) 179 4 (some (183))) 13 50) 179 5 (some (184))) 11 143)))))))))) 179 7 (some (185))) 11 400) 179 11 (some (186))) 13 5) 179 12 (some (187))) 179 14 (-1 : Int32)) 13 401) 179 15 (some (188))) 13 401) 179 16 (some (189))) 13 401) 179 17 (some (190))) 13 8) 179 26 (some (191))) 13 8) 179 30 (some (192))) 13 416) 179 31 (some (193))) 13 416) 179 32 (some (194))) 13 8) 179 34 (some (195))) 13 64) 179 35 (some (196))) 13 8) 179 36 (some (197))) 13 8) 179 37 (some (198))) 13 64) 179 40 (some (199))) 13 2048) 179 43 (some (200))) 13 256) 179 44 (some (201))) 14 21) 179 45 (some (202))) 179 46 (-1 : Int32)) 14 2) 179 52 (some (203))) 13 25) 179 53 (some (204))) 179 54 (-1 : Int32)) 181 ((51 : Int32)).toNatClampNeg (1 : Int32)) 181 ((53 : Int32)).toNatClampNeg (50 : Int32)) 181 ((57 : Int32)).toNatClampNeg (-1 : Int32)
set_option maxRecDepth 100000 in
theorem ok_X10_init {Λ : hm_M → Prop} {fr : Nat} (hfr : 1 ≤ fr) (μ : hm_M) (s0 : hm_sh μ 179 180 [(10, 56)]) (hL : Λ (i_X10 μ)) : hm_CC Λ m_X10_init fr 25 22157 [.ref 179] μ none (i_X10 μ) := by
  refine hm_enter (lv := [some (.ref 179)]) (by decide) rfl (Nat.le_of_ble_eq_true rfl) ?_
  refine tr_aload_n (pc' := 1) (show decode cX10_init 0 = .ok (.aload_n 0, 1) by decide +kernel) rfl rfl rfl ?_
  refine tr_objInit (pc' := 4) lo_HandRingModel_18 kw_oi_i kw_oi_c (show decode cX10_init 1 = .ok (.invokespecial 18, 3) by decide +kernel) rfl (Nat.le_of_ble_eq_true rfl) (by omega) ?_
  refine tr_aload_n (pc' := 5) (show decode cX10_init 4 = .ok (.aload_n 0, 1) by decide +kernel) rfl rfl rfl ?_
  refine tr_bipush (pc' := 7) (v := (7 : Int32)) (show decode cX10_init 5 = .ok (.bipush 7, 2) by decide +kernel) rfl (by decide) ?_
  refine tn_int (pc' := 9) (n := 180) (L := 7) (sh_nx s0) (by decide) (by decide +kernel) (Nat.le_of_ble_eq_true rfl) (show decode cX10_init 7 = .ok (.newarray .int, 2) by decide +kernel) rfl (Nat.le_of_ble_eq_true rfl) (Nat.le_of_ble_eq_true rfl) ?_
  have s1 : hm_sh _ 179 181 _ := sh_al (k := 13) (L := 7) (n' := 181) s0 rfl
  refine tn_put (pc' := 12) (x := 180) fl_HandRingModel_7 rfl (fun q hq => by cases hq; rfl) (show decode cX10_init 9 = .ok (.putfield 7, 3) by decide +kernel) rfl (sh_at s1 (i := 0) rfl rfl) (hm_nfA _) ?_
  have s2 : hm_sh _ 179 181 _ := sh_wR (a := 179) (j := 1) (v := some (180)) s1
  refine tr_aload_n (pc' := 13) (show decode cX10_init 12 = .ok (.aload_n 0, 1) by decide +kernel) rfl rfl rfl ?_
  refine tr_sipush (pc' := 16) (v := (5665 : Int32)) (show decode cX10_init 13 = .ok (.sipush 5665, 3) by decide +kernel) rfl (by decide) ?_
  refine tn_int (pc' := 18) (n := 181) (L := 5665) (sh_nx s2) (by decide) (by decide +kernel) (Nat.le_of_ble_eq_true rfl) (show decode cX10_init 16 = .ok (.newarray .int, 2) by decide +kernel) rfl (Nat.le_of_ble_eq_true rfl) (Nat.le_of_ble_eq_true rfl) ?_
  have s3 : hm_sh _ 179 182 _ := sh_al (k := 13) (L := 5665) (n' := 182) s2 rfl
  refine tn_put (pc' := 21) (x := 181) fl_HandRingModel_24 rfl (fun q hq => by cases hq; rfl) (show decode cX10_init 18 = .ok (.putfield 24, 3) by decide +kernel) rfl (sh_at s3 (i := 0) rfl rfl) (hm_nfA _) ?_
  have s4 : hm_sh _ 179 182 _ := sh_wR (a := 179) (j := 2) (v := some (181)) s3
  have r2 := rf_wSh s4
  refine tr_aload_n (pc' := 22) (show decode cX10_init 21 = .ok (.aload_n 0, 1) by decide +kernel) rfl rfl rfl ?_
  refine tr_sipush (pc' := 25) (v := (11330 : Int32)) (show decode cX10_init 22 = .ok (.sipush 11330, 3) by decide +kernel) rfl (by decide) ?_
  refine tn_int (pc' := 27) (n := 182) (L := 11330) (sh_nx s4) (by decide) (by decide +kernel) (Nat.le_of_ble_eq_true rfl) (show decode cX10_init 25 = .ok (.newarray .int, 2) by decide +kernel) rfl (Nat.le_of_ble_eq_true rfl) (Nat.le_of_ble_eq_true rfl) ?_
  have s5 : hm_sh _ 179 183 _ := sh_al (k := 13) (L := 11330) (n' := 183) s4 rfl
  replace r2 := rf_al (k := 13) (L := 11330) (sh_nx s4) r2 (by omega)
  refine tn_put (pc' := 30) (x := 182) fl_HandRingModel_27 rfl (fun q hq => by cases hq; rfl) (show decode cX10_init 27 = .ok (.putfield 27, 3) by decide +kernel) rfl (sh_at s5 (i := 0) rfl rfl) (hm_nfA _) ?_
  have s6 : hm_sh _ 179 183 _ := sh_wR (a := 179) (j := 3) (v := some (182)) s5
  replace r2 := rf_wR (b := 179) (i := 3) (v := some (182)) r2 (by omega)
  have r3 := rf_wSh s6
  refine tr_aload_n (pc' := 31) (show decode cX10_init 30 = .ok (.aload_n 0, 1) by decide +kernel) rfl rfl rfl ?_
  refine tr_iconst (pc' := 32) (v := (2 : Int32)) (show decode cX10_init 31 = .ok (.iconst 2, 1) by decide +kernel) rfl (by decide) ?_
  refine tn_bool (pc' := 34) (n := 183) (L := 2) (sh_nx s6) (by decide) (by decide +kernel) (Nat.le_of_ble_eq_true rfl) (show decode cX10_init 32 = .ok (.newarray .boolean, 2) by decide +kernel) rfl (Nat.le_of_ble_eq_true rfl) (Nat.le_of_ble_eq_true rfl) ?_
  have s7 : hm_sh _ 179 184 _ := sh_al (k := 15) (L := 2) (n' := 184) s6 rfl
  replace r2 := rf_al (k := 15) (L := 2) (sh_nx s6) r2 (by omega)
  replace r3 := rf_al (k := 15) (L := 2) (sh_nx s6) r3 (by omega)
  refine tn_put (pc' := 37) (x := 183) fl_HandRingModel_30 rfl (fun q hq => by cases hq; rfl) (show decode cX10_init 34 = .ok (.putfield 30, 3) by decide +kernel) rfl (sh_at s7 (i := 0) rfl rfl) (hm_nfA _) ?_
  have s8 : hm_sh _ 179 184 _ := sh_wR (a := 179) (j := 4) (v := some (183)) s7
  replace r2 := rf_wR (b := 179) (i := 4) (v := some (183)) r2 (by omega)
  replace r3 := rf_wR (b := 179) (i := 4) (v := some (183)) r3 (by omega)
  refine tr_aload_n (pc' := 38) (show decode cX10_init 37 = .ok (.aload_n 0, 1) by decide +kernel) rfl rfl rfl ?_
  refine tr_bipush (pc' := 40) (v := (50 : Int32)) (show decode cX10_init 38 = .ok (.bipush 50, 2) by decide +kernel) rfl (by decide) ?_
  refine tn_int (pc' := 42) (n := 184) (L := 50) (sh_nx s8) (by decide) (by decide +kernel) (Nat.le_of_ble_eq_true rfl) (show decode cX10_init 40 = .ok (.newarray .int, 2) by decide +kernel) rfl (Nat.le_of_ble_eq_true rfl) (Nat.le_of_ble_eq_true rfl) ?_
  have s9 : hm_sh _ 179 185 _ := sh_al (k := 13) (L := 50) (n' := 185) s8 rfl
  replace r2 := rf_al (k := 13) (L := 50) (sh_nx s8) r2 (by omega)
  replace r3 := rf_al (k := 13) (L := 50) (sh_nx s8) r3 (by omega)
  refine tn_put (pc' := 45) (x := 184) fl_HandRingModel_34 rfl (fun q hq => by cases hq; rfl) (show decode cX10_init 42 = .ok (.putfield 34, 3) by decide +kernel) rfl (sh_at s9 (i := 0) rfl rfl) (hm_nfA _) ?_
  have s10 : hm_sh _ 179 185 _ := sh_wR (a := 179) (j := 5) (v := some (184)) s9
  replace r2 := rf_wR (b := 179) (i := 5) (v := some (184)) r2 (by omega)
  replace r3 := rf_wR (b := 179) (i := 5) (v := some (184)) r3 (by omega)
  refine tr_aload_n (pc' := 46) (show decode cX10_init 45 = .ok (.aload_n 0, 1) by decide +kernel) rfl rfl rfl ?_
  refine tr_sipush (pc' := 49) (v := (143 : Int32)) (show decode cX10_init 46 = .ok (.sipush 143, 3) by decide +kernel) rfl (by decide) ?_
  refine tn_byte (pc' := 51) (n := 185) (L := 143) (sh_nx s10) (by decide) (by decide +kernel) (Nat.le_of_ble_eq_true rfl) (show decode cX10_init 49 = .ok (.newarray .byte, 2) by decide +kernel) rfl (Nat.le_of_ble_eq_true rfl) (Nat.le_of_ble_eq_true rfl) ?_
  have s11 : hm_sh _ 179 186 _ := sh_al (k := 11) (L := 143) (n' := 186) s10 rfl
  replace r2 := rf_al (k := 11) (L := 143) (sh_nx s10) r2 (by omega)
  replace r3 := rf_al (k := 11) (L := 143) (sh_nx s10) r3 (by omega)
  refine i_Wc51_T (sh_ar s11 (i := 6) rfl rfl) ?_
  have s12 : hm_sh _ 179 186 _ := sh_i_Wc51 s11
  replace r2 := rf_i_Wc51 r2
  replace r3 := rf_i_Wc51 r3
  refine i_Wc141_T (sh_ar s12 (i := 6) rfl rfl) ?_
  have s13 : hm_sh _ 179 186 _ := sh_i_Wc141 s12
  replace r2 := rf_i_Wc141 r2
  replace r3 := rf_i_Wc141 r3
  refine i_Wc237_T (sh_ar s13 (i := 6) rfl rfl) ?_
  have s14 : hm_sh _ 179 186 _ := sh_i_Wc237 s13
  replace r2 := rf_i_Wc237 r2
  replace r3 := rf_i_Wc237 r3
  refine i_Wc333_T (sh_ar s14 (i := 6) rfl rfl) ?_
  have s15 : hm_sh _ 179 186 _ := sh_i_Wc333 s14
  replace r2 := rf_i_Wc333 r2
  replace r3 := rf_i_Wc333 r3
  refine i_Wc429_T (sh_ar s15 (i := 6) rfl rfl) ?_
  have s16 : hm_sh _ 179 186 _ := sh_i_Wc429 s15
  replace r2 := rf_i_Wc429 r2
  replace r3 := rf_i_Wc429 r3
  refine i_Wc525_T (sh_ar s16 (i := 6) rfl rfl) ?_
  have s17 : hm_sh _ 179 186 _ := sh_i_Wc525 s16
  replace r2 := rf_i_Wc525 r2
  replace r3 := rf_i_Wc525 r3
  refine i_Wc621_T (sh_ar s17 (i := 6) rfl rfl) ?_
  have s18 : hm_sh _ 179 186 _ := sh_i_Wc621 s17
  replace r2 := rf_i_Wc621 r2
  replace r3 := rf_i_Wc621 r3
  refine i_Wc717_T (sh_ar s18 (i := 6) rfl rfl) ?_
  have s19 : hm_sh _ 179 186 _ := sh_i_Wc717 s18
  replace r2 := rf_i_Wc717 r2
  replace r3 := rf_i_Wc717 r3
  refine i_Wc813_T (sh_ar s19 (i := 6) rfl rfl) ?_
  have s20 : hm_sh _ 179 186 _ := sh_i_Wc813 s19
  replace r2 := rf_i_Wc813 r2
  replace r3 := rf_i_Wc813 r3
  refine tn_put (pc' := 921) (x := 185) fl_HandRingModel_37 rfl (fun q hq => by cases hq; rfl) (show decode cX10_init 918 = .ok (.putfield 37, 3) by decide +kernel) rfl (sh_at s20 (i := 0) rfl rfl) (hm_nfA _) ?_
  have s21 : hm_sh _ 179 186 _ := sh_wR (a := 179) (j := 7) (v := some (185)) s20
  replace r2 := rf_wR (b := 179) (i := 7) (v := some (185)) r2 (by omega)
  replace r3 := rf_wR (b := 179) (i := 7) (v := some (185)) r3 (by omega)
  refine tr_aload_n (pc' := 922) (show decode cX10_init 921 = .ok (.aload_n 0, 1) by decide +kernel) rfl rfl rfl ?_
  refine tr_sipush (pc' := 925) (v := (400 : Int32)) (show decode cX10_init 922 = .ok (.sipush 400, 3) by decide +kernel) rfl (by decide) ?_
  refine tn_byte (pc' := 927) (n := 186) (L := 400) (sh_nx s21) (by decide) (by decide +kernel) (Nat.le_of_ble_eq_true rfl) (show decode cX10_init 925 = .ok (.newarray .byte, 2) by decide +kernel) rfl (Nat.le_of_ble_eq_true rfl) (Nat.le_of_ble_eq_true rfl) ?_
  have s22 : hm_sh _ 179 187 _ := sh_al (k := 11) (L := 400) (n' := 187) s21 rfl
  replace r2 := rf_al (k := 11) (L := 400) (sh_nx s21) r2 (by omega)
  replace r3 := rf_al (k := 11) (L := 400) (sh_nx s21) r3 (by omega)
  refine tn_put (pc' := 930) (x := 186) fl_HandRingModel_41 rfl (fun q hq => by cases hq; rfl) (show decode cX10_init 927 = .ok (.putfield 41, 3) by decide +kernel) rfl (sh_at s22 (i := 0) rfl rfl) (hm_nfA _) ?_
  have s23 : hm_sh _ 179 187 _ := sh_wR (a := 179) (j := 11) (v := some (186)) s22
  replace r2 := rf_wR (b := 179) (i := 11) (v := some (186)) r2 (by omega)
  replace r3 := rf_wR (b := 179) (i := 11) (v := some (186)) r3 (by omega)
  refine tr_aload_n (pc' := 931) (show decode cX10_init 930 = .ok (.aload_n 0, 1) by decide +kernel) rfl rfl rfl ?_
  refine tr_iconst (pc' := 932) (v := (5 : Int32)) (show decode cX10_init 931 = .ok (.iconst 5, 1) by decide +kernel) rfl (by decide) ?_
  refine tn_int (pc' := 934) (n := 187) (L := 5) (sh_nx s23) (by decide) (by decide +kernel) (Nat.le_of_ble_eq_true rfl) (show decode cX10_init 932 = .ok (.newarray .int, 2) by decide +kernel) rfl (Nat.le_of_ble_eq_true rfl) (Nat.le_of_ble_eq_true rfl) ?_
  have s24 : hm_sh _ 179 188 _ := sh_al (k := 13) (L := 5) (n' := 188) s23 rfl
  replace r2 := rf_al (k := 13) (L := 5) (sh_nx s23) r2 (by omega)
  replace r3 := rf_al (k := 13) (L := 5) (sh_nx s23) r3 (by omega)
  refine tn_put (pc' := 937) (x := 187) fl_HandRingModel_44 rfl (fun q hq => by cases hq; rfl) (show decode cX10_init 934 = .ok (.putfield 44, 3) by decide +kernel) rfl (sh_at s24 (i := 0) rfl rfl) (hm_nfA _) ?_
  have s25 : hm_sh _ 179 188 _ := sh_wR (a := 179) (j := 12) (v := some (187)) s24
  replace r2 := rf_wR (b := 179) (i := 12) (v := some (187)) r2 (by omega)
  replace r3 := rf_wR (b := 179) (i := 12) (v := some (187)) r3 (by omega)
  refine tr_aload_n (pc' := 938) (show decode cX10_init 937 = .ok (.aload_n 0, 1) by decide +kernel) rfl rfl rfl ?_
  refine tr_iconst (pc' := 939) (v := (-1 : Int32)) (show decode cX10_init 938 = .ok (.iconst (-1), 1) by decide +kernel) rfl (by decide) ?_
  refine tp_pI (pc' := 942) fl_HandRingModel_47 (show decode cX10_init 939 = .ok (.putfield 47, 3) by decide +kernel) rfl (sh_at s25 (i := 0) rfl rfl) rfl ?_
  have s26 : hm_sh _ 179 188 _ := sh_wI (a := 179) (j := 14) (v := (-1 : Int32)) s25
  replace r2 := rf_wI (b := 179) (i := 14) (v := (-1 : Int32)) r2
  replace r3 := rf_wI (b := 179) (i := 14) (v := (-1 : Int32)) r3
  refine tr_aload_n (pc' := 943) (show decode cX10_init 942 = .ok (.aload_n 0, 1) by decide +kernel) rfl rfl rfl ?_
  refine tr_sipush (pc' := 946) (v := (401 : Int32)) (show decode cX10_init 943 = .ok (.sipush 401, 3) by decide +kernel) rfl (by decide) ?_
  refine tn_int (pc' := 948) (n := 188) (L := 401) (sh_nx s26) (by decide) (by decide +kernel) (Nat.le_of_ble_eq_true rfl) (show decode cX10_init 946 = .ok (.newarray .int, 2) by decide +kernel) rfl (Nat.le_of_ble_eq_true rfl) (Nat.le_of_ble_eq_true rfl) ?_
  have s27 : hm_sh _ 179 189 _ := sh_al (k := 13) (L := 401) (n' := 189) s26 rfl
  replace r2 := rf_al (k := 13) (L := 401) (sh_nx s26) r2 (by omega)
  replace r3 := rf_al (k := 13) (L := 401) (sh_nx s26) r3 (by omega)
  refine tn_put (pc' := 951) (x := 188) fl_HandRingModel_50 rfl (fun q hq => by cases hq; rfl) (show decode cX10_init 948 = .ok (.putfield 50, 3) by decide +kernel) rfl (sh_at s27 (i := 0) rfl rfl) (hm_nfA _) ?_
  have s28 : hm_sh _ 179 189 _ := sh_wR (a := 179) (j := 15) (v := some (188)) s27
  replace r2 := rf_wR (b := 179) (i := 15) (v := some (188)) r2 (by omega)
  replace r3 := rf_wR (b := 179) (i := 15) (v := some (188)) r3 (by omega)
  refine tr_aload_n (pc' := 952) (show decode cX10_init 951 = .ok (.aload_n 0, 1) by decide +kernel) rfl rfl rfl ?_
  refine tr_sipush (pc' := 955) (v := (401 : Int32)) (show decode cX10_init 952 = .ok (.sipush 401, 3) by decide +kernel) rfl (by decide) ?_
  refine tn_int (pc' := 957) (n := 189) (L := 401) (sh_nx s28) (by decide) (by decide +kernel) (Nat.le_of_ble_eq_true rfl) (show decode cX10_init 955 = .ok (.newarray .int, 2) by decide +kernel) rfl (Nat.le_of_ble_eq_true rfl) (Nat.le_of_ble_eq_true rfl) ?_
  have s29 : hm_sh _ 179 190 _ := sh_al (k := 13) (L := 401) (n' := 190) s28 rfl
  replace r2 := rf_al (k := 13) (L := 401) (sh_nx s28) r2 (by omega)
  replace r3 := rf_al (k := 13) (L := 401) (sh_nx s28) r3 (by omega)
  refine tn_put (pc' := 960) (x := 189) fl_HandRingModel_53 rfl (fun q hq => by cases hq; rfl) (show decode cX10_init 957 = .ok (.putfield 53, 3) by decide +kernel) rfl (sh_at s29 (i := 0) rfl rfl) (hm_nfA _) ?_
  have s30 : hm_sh _ 179 190 _ := sh_wR (a := 179) (j := 16) (v := some (189)) s29
  replace r2 := rf_wR (b := 179) (i := 16) (v := some (189)) r2 (by omega)
  replace r3 := rf_wR (b := 179) (i := 16) (v := some (189)) r3 (by omega)
  refine tr_aload_n (pc' := 961) (show decode cX10_init 960 = .ok (.aload_n 0, 1) by decide +kernel) rfl rfl rfl ?_
  refine tr_sipush (pc' := 964) (v := (401 : Int32)) (show decode cX10_init 961 = .ok (.sipush 401, 3) by decide +kernel) rfl (by decide) ?_
  refine tn_int (pc' := 966) (n := 190) (L := 401) (sh_nx s30) (by decide) (by decide +kernel) (Nat.le_of_ble_eq_true rfl) (show decode cX10_init 964 = .ok (.newarray .int, 2) by decide +kernel) rfl (Nat.le_of_ble_eq_true rfl) (Nat.le_of_ble_eq_true rfl) ?_
  have s31 : hm_sh _ 179 191 _ := sh_al (k := 13) (L := 401) (n' := 191) s30 rfl
  replace r2 := rf_al (k := 13) (L := 401) (sh_nx s30) r2 (by omega)
  replace r3 := rf_al (k := 13) (L := 401) (sh_nx s30) r3 (by omega)
  refine tn_put (pc' := 969) (x := 190) fl_HandRingModel_56 rfl (fun q hq => by cases hq; rfl) (show decode cX10_init 966 = .ok (.putfield 56, 3) by decide +kernel) rfl (sh_at s31 (i := 0) rfl rfl) (hm_nfA _) ?_
  have s32 : hm_sh _ 179 191 _ := sh_wR (a := 179) (j := 17) (v := some (190)) s31
  replace r2 := rf_wR (b := 179) (i := 17) (v := some (190)) r2 (by omega)
  replace r3 := rf_wR (b := 179) (i := 17) (v := some (190)) r3 (by omega)
  refine tr_aload_n (pc' := 970) (show decode cX10_init 969 = .ok (.aload_n 0, 1) by decide +kernel) rfl rfl rfl ?_
  refine tr_bipush (pc' := 972) (v := (8 : Int32)) (show decode cX10_init 970 = .ok (.bipush 8, 2) by decide +kernel) rfl (by decide) ?_
  refine tn_int (pc' := 974) (n := 191) (L := 8) (sh_nx s32) (by decide) (by decide +kernel) (Nat.le_of_ble_eq_true rfl) (show decode cX10_init 972 = .ok (.newarray .int, 2) by decide +kernel) rfl (Nat.le_of_ble_eq_true rfl) (Nat.le_of_ble_eq_true rfl) ?_
  have s33 : hm_sh _ 179 192 _ := sh_al (k := 13) (L := 8) (n' := 192) s32 rfl
  replace r2 := rf_al (k := 13) (L := 8) (sh_nx s32) r2 (by omega)
  replace r3 := rf_al (k := 13) (L := 8) (sh_nx s32) r3 (by omega)
  refine tn_put (pc' := 977) (x := 191) fl_HandRingModel_59 rfl (fun q hq => by cases hq; rfl) (show decode cX10_init 974 = .ok (.putfield 59, 3) by decide +kernel) rfl (sh_at s33 (i := 0) rfl rfl) (hm_nfA _) ?_
  have s34 : hm_sh _ 179 192 _ := sh_wR (a := 179) (j := 26) (v := some (191)) s33
  replace r2 := rf_wR (b := 179) (i := 26) (v := some (191)) r2 (by omega)
  replace r3 := rf_wR (b := 179) (i := 26) (v := some (191)) r3 (by omega)
  refine tr_aload_n (pc' := 978) (show decode cX10_init 977 = .ok (.aload_n 0, 1) by decide +kernel) rfl rfl rfl ?_
  refine tr_bipush (pc' := 980) (v := (8 : Int32)) (show decode cX10_init 978 = .ok (.bipush 8, 2) by decide +kernel) rfl (by decide) ?_
  refine tn_int (pc' := 982) (n := 192) (L := 8) (sh_nx s34) (by decide) (by decide +kernel) (Nat.le_of_ble_eq_true rfl) (show decode cX10_init 980 = .ok (.newarray .int, 2) by decide +kernel) rfl (Nat.le_of_ble_eq_true rfl) (Nat.le_of_ble_eq_true rfl) ?_
  have s35 : hm_sh _ 179 193 _ := sh_al (k := 13) (L := 8) (n' := 193) s34 rfl
  replace r2 := rf_al (k := 13) (L := 8) (sh_nx s34) r2 (by omega)
  replace r3 := rf_al (k := 13) (L := 8) (sh_nx s34) r3 (by omega)
  refine tn_put (pc' := 985) (x := 192) fl_HandRingModel_62 rfl (fun q hq => by cases hq; rfl) (show decode cX10_init 982 = .ok (.putfield 62, 3) by decide +kernel) rfl (sh_at s35 (i := 0) rfl rfl) (hm_nfA _) ?_
  have s36 : hm_sh _ 179 193 _ := sh_wR (a := 179) (j := 30) (v := some (192)) s35
  replace r2 := rf_wR (b := 179) (i := 30) (v := some (192)) r2 (by omega)
  replace r3 := rf_wR (b := 179) (i := 30) (v := some (192)) r3 (by omega)
  refine tr_aload_n (pc' := 986) (show decode cX10_init 985 = .ok (.aload_n 0, 1) by decide +kernel) rfl rfl rfl ?_
  refine tr_sipush (pc' := 989) (v := (416 : Int32)) (show decode cX10_init 986 = .ok (.sipush 416, 3) by decide +kernel) rfl (by decide) ?_
  refine tn_int (pc' := 991) (n := 193) (L := 416) (sh_nx s36) (by decide) (by decide +kernel) (Nat.le_of_ble_eq_true rfl) (show decode cX10_init 989 = .ok (.newarray .int, 2) by decide +kernel) rfl (Nat.le_of_ble_eq_true rfl) (Nat.le_of_ble_eq_true rfl) ?_
  have s37 : hm_sh _ 179 194 _ := sh_al (k := 13) (L := 416) (n' := 194) s36 rfl
  replace r2 := rf_al (k := 13) (L := 416) (sh_nx s36) r2 (by omega)
  replace r3 := rf_al (k := 13) (L := 416) (sh_nx s36) r3 (by omega)
  refine tn_put (pc' := 994) (x := 193) fl_HandRingModel_65 rfl (fun q hq => by cases hq; rfl) (show decode cX10_init 991 = .ok (.putfield 65, 3) by decide +kernel) rfl (sh_at s37 (i := 0) rfl rfl) (hm_nfA _) ?_
  have s38 : hm_sh _ 179 194 _ := sh_wR (a := 179) (j := 31) (v := some (193)) s37
  replace r2 := rf_wR (b := 179) (i := 31) (v := some (193)) r2 (by omega)
  replace r3 := rf_wR (b := 179) (i := 31) (v := some (193)) r3 (by omega)
  refine tr_aload_n (pc' := 995) (show decode cX10_init 994 = .ok (.aload_n 0, 1) by decide +kernel) rfl rfl rfl ?_
  refine tr_sipush (pc' := 998) (v := (416 : Int32)) (show decode cX10_init 995 = .ok (.sipush 416, 3) by decide +kernel) rfl (by decide) ?_
  refine tn_int (pc' := 1000) (n := 194) (L := 416) (sh_nx s38) (by decide) (by decide +kernel) (Nat.le_of_ble_eq_true rfl) (show decode cX10_init 998 = .ok (.newarray .int, 2) by decide +kernel) rfl (Nat.le_of_ble_eq_true rfl) (Nat.le_of_ble_eq_true rfl) ?_
  have s39 : hm_sh _ 179 195 _ := sh_al (k := 13) (L := 416) (n' := 195) s38 rfl
  replace r2 := rf_al (k := 13) (L := 416) (sh_nx s38) r2 (by omega)
  replace r3 := rf_al (k := 13) (L := 416) (sh_nx s38) r3 (by omega)
  refine tn_put (pc' := 1003) (x := 194) fl_HandRingModel_68 rfl (fun q hq => by cases hq; rfl) (show decode cX10_init 1000 = .ok (.putfield 68, 3) by decide +kernel) rfl (sh_at s39 (i := 0) rfl rfl) (hm_nfA _) ?_
  have s40 : hm_sh _ 179 195 _ := sh_wR (a := 179) (j := 32) (v := some (194)) s39
  replace r2 := rf_wR (b := 179) (i := 32) (v := some (194)) r2 (by omega)
  replace r3 := rf_wR (b := 179) (i := 32) (v := some (194)) r3 (by omega)
  refine tr_aload_n (pc' := 1004) (show decode cX10_init 1003 = .ok (.aload_n 0, 1) by decide +kernel) rfl rfl rfl ?_
  refine tr_bipush (pc' := 1006) (v := (8 : Int32)) (show decode cX10_init 1004 = .ok (.bipush 8, 2) by decide +kernel) rfl (by decide) ?_
  refine tn_int (pc' := 1008) (n := 195) (L := 8) (sh_nx s40) (by decide) (by decide +kernel) (Nat.le_of_ble_eq_true rfl) (show decode cX10_init 1006 = .ok (.newarray .int, 2) by decide +kernel) rfl (Nat.le_of_ble_eq_true rfl) (Nat.le_of_ble_eq_true rfl) ?_
  have s41 : hm_sh _ 179 196 _ := sh_al (k := 13) (L := 8) (n' := 196) s40 rfl
  replace r2 := rf_al (k := 13) (L := 8) (sh_nx s40) r2 (by omega)
  replace r3 := rf_al (k := 13) (L := 8) (sh_nx s40) r3 (by omega)
  refine tn_put (pc' := 1011) (x := 195) fl_HandRingModel_71 rfl (fun q hq => by cases hq; rfl) (show decode cX10_init 1008 = .ok (.putfield 71, 3) by decide +kernel) rfl (sh_at s41 (i := 0) rfl rfl) (hm_nfA _) ?_
  have s42 : hm_sh _ 179 196 _ := sh_wR (a := 179) (j := 34) (v := some (195)) s41
  replace r2 := rf_wR (b := 179) (i := 34) (v := some (195)) r2 (by omega)
  replace r3 := rf_wR (b := 179) (i := 34) (v := some (195)) r3 (by omega)
  refine tr_aload_n (pc' := 1012) (show decode cX10_init 1011 = .ok (.aload_n 0, 1) by decide +kernel) rfl rfl rfl ?_
  refine tr_bipush (pc' := 1014) (v := (64 : Int32)) (show decode cX10_init 1012 = .ok (.bipush 64, 2) by decide +kernel) rfl (by decide) ?_
  refine tn_int (pc' := 1016) (n := 196) (L := 64) (sh_nx s42) (by decide) (by decide +kernel) (Nat.le_of_ble_eq_true rfl) (show decode cX10_init 1014 = .ok (.newarray .int, 2) by decide +kernel) rfl (Nat.le_of_ble_eq_true rfl) (Nat.le_of_ble_eq_true rfl) ?_
  have s43 : hm_sh _ 179 197 _ := sh_al (k := 13) (L := 64) (n' := 197) s42 rfl
  replace r2 := rf_al (k := 13) (L := 64) (sh_nx s42) r2 (by omega)
  replace r3 := rf_al (k := 13) (L := 64) (sh_nx s42) r3 (by omega)
  refine tn_put (pc' := 1019) (x := 196) fl_HandRingModel_74 rfl (fun q hq => by cases hq; rfl) (show decode cX10_init 1016 = .ok (.putfield 74, 3) by decide +kernel) rfl (sh_at s43 (i := 0) rfl rfl) (hm_nfA _) ?_
  have s44 : hm_sh _ 179 197 _ := sh_wR (a := 179) (j := 35) (v := some (196)) s43
  replace r2 := rf_wR (b := 179) (i := 35) (v := some (196)) r2 (by omega)
  replace r3 := rf_wR (b := 179) (i := 35) (v := some (196)) r3 (by omega)
  refine tr_aload_n (pc' := 1020) (show decode cX10_init 1019 = .ok (.aload_n 0, 1) by decide +kernel) rfl rfl rfl ?_
  refine tr_bipush (pc' := 1022) (v := (8 : Int32)) (show decode cX10_init 1020 = .ok (.bipush 8, 2) by decide +kernel) rfl (by decide) ?_
  refine tn_int (pc' := 1024) (n := 197) (L := 8) (sh_nx s44) (by decide) (by decide +kernel) (Nat.le_of_ble_eq_true rfl) (show decode cX10_init 1022 = .ok (.newarray .int, 2) by decide +kernel) rfl (Nat.le_of_ble_eq_true rfl) (Nat.le_of_ble_eq_true rfl) ?_
  have s45 : hm_sh _ 179 198 _ := sh_al (k := 13) (L := 8) (n' := 198) s44 rfl
  replace r2 := rf_al (k := 13) (L := 8) (sh_nx s44) r2 (by omega)
  replace r3 := rf_al (k := 13) (L := 8) (sh_nx s44) r3 (by omega)
  refine tn_put (pc' := 1027) (x := 197) fl_HandRingModel_77 rfl (fun q hq => by cases hq; rfl) (show decode cX10_init 1024 = .ok (.putfield 77, 3) by decide +kernel) rfl (sh_at s45 (i := 0) rfl rfl) (hm_nfA _) ?_
  have s46 : hm_sh _ 179 198 _ := sh_wR (a := 179) (j := 36) (v := some (197)) s45
  replace r2 := rf_wR (b := 179) (i := 36) (v := some (197)) r2 (by omega)
  replace r3 := rf_wR (b := 179) (i := 36) (v := some (197)) r3 (by omega)
  refine tr_aload_n (pc' := 1028) (show decode cX10_init 1027 = .ok (.aload_n 0, 1) by decide +kernel) rfl rfl rfl ?_
  refine tr_bipush (pc' := 1030) (v := (8 : Int32)) (show decode cX10_init 1028 = .ok (.bipush 8, 2) by decide +kernel) rfl (by decide) ?_
  refine tn_int (pc' := 1032) (n := 198) (L := 8) (sh_nx s46) (by decide) (by decide +kernel) (Nat.le_of_ble_eq_true rfl) (show decode cX10_init 1030 = .ok (.newarray .int, 2) by decide +kernel) rfl (Nat.le_of_ble_eq_true rfl) (Nat.le_of_ble_eq_true rfl) ?_
  have s47 : hm_sh _ 179 199 _ := sh_al (k := 13) (L := 8) (n' := 199) s46 rfl
  replace r2 := rf_al (k := 13) (L := 8) (sh_nx s46) r2 (by omega)
  replace r3 := rf_al (k := 13) (L := 8) (sh_nx s46) r3 (by omega)
  refine tn_put (pc' := 1035) (x := 198) fl_HandRingModel_80 rfl (fun q hq => by cases hq; rfl) (show decode cX10_init 1032 = .ok (.putfield 80, 3) by decide +kernel) rfl (sh_at s47 (i := 0) rfl rfl) (hm_nfA _) ?_
  have s48 : hm_sh _ 179 199 _ := sh_wR (a := 179) (j := 37) (v := some (198)) s47
  replace r2 := rf_wR (b := 179) (i := 37) (v := some (198)) r2 (by omega)
  replace r3 := rf_wR (b := 179) (i := 37) (v := some (198)) r3 (by omega)
  refine tr_aload_n (pc' := 1036) (show decode cX10_init 1035 = .ok (.aload_n 0, 1) by decide +kernel) rfl rfl rfl ?_
  refine tr_bipush (pc' := 1038) (v := (64 : Int32)) (show decode cX10_init 1036 = .ok (.bipush 64, 2) by decide +kernel) rfl (by decide) ?_
  refine tn_int (pc' := 1040) (n := 199) (L := 64) (sh_nx s48) (by decide) (by decide +kernel) (Nat.le_of_ble_eq_true rfl) (show decode cX10_init 1038 = .ok (.newarray .int, 2) by decide +kernel) rfl (Nat.le_of_ble_eq_true rfl) (Nat.le_of_ble_eq_true rfl) ?_
  have s49 : hm_sh _ 179 200 _ := sh_al (k := 13) (L := 64) (n' := 200) s48 rfl
  replace r2 := rf_al (k := 13) (L := 64) (sh_nx s48) r2 (by omega)
  replace r3 := rf_al (k := 13) (L := 64) (sh_nx s48) r3 (by omega)
  refine tn_put (pc' := 1043) (x := 199) fl_HandRingModel_83 rfl (fun q hq => by cases hq; rfl) (show decode cX10_init 1040 = .ok (.putfield 83, 3) by decide +kernel) rfl (sh_at s49 (i := 0) rfl rfl) (hm_nfA _) ?_
  have s50 : hm_sh _ 179 200 _ := sh_wR (a := 179) (j := 40) (v := some (199)) s49
  replace r2 := rf_wR (b := 179) (i := 40) (v := some (199)) r2 (by omega)
  replace r3 := rf_wR (b := 179) (i := 40) (v := some (199)) r3 (by omega)
  refine tr_aload_n (pc' := 1044) (show decode cX10_init 1043 = .ok (.aload_n 0, 1) by decide +kernel) rfl rfl rfl ?_
  refine tr_sipush (pc' := 1047) (v := (2048 : Int32)) (show decode cX10_init 1044 = .ok (.sipush 2048, 3) by decide +kernel) rfl (by decide) ?_
  refine tn_int (pc' := 1049) (n := 200) (L := 2048) (sh_nx s50) (by decide) (by decide +kernel) (Nat.le_of_ble_eq_true rfl) (show decode cX10_init 1047 = .ok (.newarray .int, 2) by decide +kernel) rfl (Nat.le_of_ble_eq_true rfl) (Nat.le_of_ble_eq_true rfl) ?_
  have s51 : hm_sh _ 179 201 _ := sh_al (k := 13) (L := 2048) (n' := 201) s50 rfl
  replace r2 := rf_al (k := 13) (L := 2048) (sh_nx s50) r2 (by omega)
  replace r3 := rf_al (k := 13) (L := 2048) (sh_nx s50) r3 (by omega)
  refine tn_put (pc' := 1052) (x := 200) fl_HandRingModel_86 rfl (fun q hq => by cases hq; rfl) (show decode cX10_init 1049 = .ok (.putfield 86, 3) by decide +kernel) rfl (sh_at s51 (i := 0) rfl rfl) (hm_nfA _) ?_
  have s52 : hm_sh _ 179 201 _ := sh_wR (a := 179) (j := 43) (v := some (200)) s51
  replace r2 := rf_wR (b := 179) (i := 43) (v := some (200)) r2 (by omega)
  replace r3 := rf_wR (b := 179) (i := 43) (v := some (200)) r3 (by omega)
  refine tr_aload_n (pc' := 1053) (show decode cX10_init 1052 = .ok (.aload_n 0, 1) by decide +kernel) rfl rfl rfl ?_
  refine tr_sipush (pc' := 1056) (v := (256 : Int32)) (show decode cX10_init 1053 = .ok (.sipush 256, 3) by decide +kernel) rfl (by decide) ?_
  refine tn_int (pc' := 1058) (n := 201) (L := 256) (sh_nx s52) (by decide) (by decide +kernel) (Nat.le_of_ble_eq_true rfl) (show decode cX10_init 1056 = .ok (.newarray .int, 2) by decide +kernel) rfl (Nat.le_of_ble_eq_true rfl) (Nat.le_of_ble_eq_true rfl) ?_
  have s53 : hm_sh _ 179 202 _ := sh_al (k := 13) (L := 256) (n' := 202) s52 rfl
  replace r2 := rf_al (k := 13) (L := 256) (sh_nx s52) r2 (by omega)
  replace r3 := rf_al (k := 13) (L := 256) (sh_nx s52) r3 (by omega)
  refine tn_put (pc' := 1061) (x := 201) fl_HandRingModel_89 rfl (fun q hq => by cases hq; rfl) (show decode cX10_init 1058 = .ok (.putfield 89, 3) by decide +kernel) rfl (sh_at s53 (i := 0) rfl rfl) (hm_nfA _) ?_
  have s54 : hm_sh _ 179 202 _ := sh_wR (a := 179) (j := 44) (v := some (201)) s53
  replace r2 := rf_wR (b := 179) (i := 44) (v := some (201)) r2 (by omega)
  replace r3 := rf_wR (b := 179) (i := 44) (v := some (201)) r3 (by omega)
  refine tr_aload_n (pc' := 1062) (show decode cX10_init 1061 = .ok (.aload_n 0, 1) by decide +kernel) rfl rfl rfl ?_
  refine tr_bipush (pc' := 1064) (v := (21 : Int32)) (show decode cX10_init 1062 = .ok (.bipush 21, 2) by decide +kernel) rfl (by decide) ?_
  refine tn_long (pc' := 1066) (n := 202) (L := 21) (sh_nx s54) (by decide) (by decide +kernel) (Nat.le_of_ble_eq_true rfl) (show decode cX10_init 1064 = .ok (.newarray .long, 2) by decide +kernel) rfl (Nat.le_of_ble_eq_true rfl) (Nat.le_of_ble_eq_true rfl) ?_
  have s55 : hm_sh _ 179 203 _ := sh_al (k := 14) (L := 21) (n' := 203) s54 rfl
  replace r2 := rf_al (k := 14) (L := 21) (sh_nx s54) r2 (by omega)
  replace r3 := rf_al (k := 14) (L := 21) (sh_nx s54) r3 (by omega)
  refine tn_put (pc' := 1069) (x := 202) fl_HandRingModel_92 rfl (fun q hq => by cases hq; rfl) (show decode cX10_init 1066 = .ok (.putfield 92, 3) by decide +kernel) rfl (sh_at s55 (i := 0) rfl rfl) (hm_nfA _) ?_
  have s56 : hm_sh _ 179 203 _ := sh_wR (a := 179) (j := 45) (v := some (202)) s55
  replace r2 := rf_wR (b := 179) (i := 45) (v := some (202)) r2 (by omega)
  replace r3 := rf_wR (b := 179) (i := 45) (v := some (202)) r3 (by omega)
  refine tr_aload_n (pc' := 1070) (show decode cX10_init 1069 = .ok (.aload_n 0, 1) by decide +kernel) rfl rfl rfl ?_
  refine tr_iconst (pc' := 1071) (v := (-1 : Int32)) (show decode cX10_init 1070 = .ok (.iconst (-1), 1) by decide +kernel) rfl (by decide) ?_
  refine tp_pI (pc' := 1074) fl_HandRingModel_96 (show decode cX10_init 1071 = .ok (.putfield 96, 3) by decide +kernel) rfl (sh_at s56 (i := 0) rfl rfl) rfl ?_
  have s57 : hm_sh _ 179 203 _ := sh_wI (a := 179) (j := 46) (v := (-1 : Int32)) s56
  replace r2 := rf_wI (b := 179) (i := 46) (v := (-1 : Int32)) r2
  replace r3 := rf_wI (b := 179) (i := 46) (v := (-1 : Int32)) r3
  refine tr_aload_n (pc' := 1075) (show decode cX10_init 1074 = .ok (.aload_n 0, 1) by decide +kernel) rfl rfl rfl ?_
  refine tr_iconst (pc' := 1076) (v := (2 : Int32)) (show decode cX10_init 1075 = .ok (.iconst 2, 1) by decide +kernel) rfl (by decide) ?_
  refine tn_long (pc' := 1078) (n := 203) (L := 2) (sh_nx s57) (by decide) (by decide +kernel) (Nat.le_of_ble_eq_true rfl) (show decode cX10_init 1076 = .ok (.newarray .long, 2) by decide +kernel) rfl (Nat.le_of_ble_eq_true rfl) (Nat.le_of_ble_eq_true rfl) ?_
  have s58 : hm_sh _ 179 204 _ := sh_al (k := 14) (L := 2) (n' := 204) s57 rfl
  replace r2 := rf_al (k := 14) (L := 2) (sh_nx s57) r2 (by omega)
  replace r3 := rf_al (k := 14) (L := 2) (sh_nx s57) r3 (by omega)
  refine tn_put (pc' := 1081) (x := 203) fl_HandRingModel_99 rfl (fun q hq => by cases hq; rfl) (show decode cX10_init 1078 = .ok (.putfield 99, 3) by decide +kernel) rfl (sh_at s58 (i := 0) rfl rfl) (hm_nfA _) ?_
  have s59 : hm_sh _ 179 204 _ := sh_wR (a := 179) (j := 52) (v := some (203)) s58
  replace r2 := rf_wR (b := 179) (i := 52) (v := some (203)) r2 (by omega)
  replace r3 := rf_wR (b := 179) (i := 52) (v := some (203)) r3 (by omega)
  refine tr_aload_n (pc' := 1082) (show decode cX10_init 1081 = .ok (.aload_n 0, 1) by decide +kernel) rfl rfl rfl ?_
  refine tr_bipush (pc' := 1084) (v := (25 : Int32)) (show decode cX10_init 1082 = .ok (.bipush 25, 2) by decide +kernel) rfl (by decide) ?_
  refine tn_int (pc' := 1086) (n := 204) (L := 25) (sh_nx s59) (by decide) (by decide +kernel) (Nat.le_of_ble_eq_true rfl) (show decode cX10_init 1084 = .ok (.newarray .int, 2) by decide +kernel) rfl (Nat.le_of_ble_eq_true rfl) (Nat.le_of_ble_eq_true rfl) ?_
  have s60 : hm_sh _ 179 205 _ := sh_al (k := 13) (L := 25) (n' := 205) s59 rfl
  replace r2 := rf_al (k := 13) (L := 25) (sh_nx s59) r2 (by omega)
  replace r3 := rf_al (k := 13) (L := 25) (sh_nx s59) r3 (by omega)
  refine tn_put (pc' := 1089) (x := 204) fl_HandRingModel_102 rfl (fun q hq => by cases hq; rfl) (show decode cX10_init 1086 = .ok (.putfield 102, 3) by decide +kernel) rfl (sh_at s60 (i := 0) rfl rfl) (hm_nfA _) ?_
  have s61 : hm_sh _ 179 205 _ := sh_wR (a := 179) (j := 53) (v := some (204)) s60
  replace r2 := rf_wR (b := 179) (i := 53) (v := some (204)) r2 (by omega)
  replace r3 := rf_wR (b := 179) (i := 53) (v := some (204)) r3 (by omega)
  refine tr_aload_n (pc' := 1090) (show decode cX10_init 1089 = .ok (.aload_n 0, 1) by decide +kernel) rfl rfl rfl ?_
  refine tr_iconst (pc' := 1091) (v := (-1 : Int32)) (show decode cX10_init 1090 = .ok (.iconst (-1), 1) by decide +kernel) rfl (by decide) ?_
  refine tp_pI (pc' := 1094) fl_HandRingModel_105 (show decode cX10_init 1091 = .ok (.putfield 105, 3) by decide +kernel) rfl (sh_at s61 (i := 0) rfl rfl) rfl ?_
  have s62 : hm_sh _ 179 205 _ := sh_wI (a := 179) (j := 54) (v := (-1 : Int32)) s61
  replace r2 := rf_wI (b := 179) (i := 54) (v := (-1 : Int32)) r2
  replace r3 := rf_wI (b := 179) (i := 54) (v := (-1 : Int32)) r3
  refine tr_aload_n (pc' := 1095) (show decode cX10_init 1094 = .ok (.aload_n 0, 1) by decide +kernel) rfl rfl rfl ?_
  refine tr_getR (pc' := 1098) fl_HandRingModel_24 (show decode cX10_init 1095 = .ok (.getfield 24, 3) by decide +kernel) rfl (sh_at s62 (i := 0) rfl rfl) (rf_of r2) ?_
  refine tr_bipush (pc' := 1100) (v := (51 : Int32)) (show decode cX10_init 1098 = .ok (.bipush 51, 2) by decide +kernel) rfl (by decide) ?_
  refine tr_iconst (pc' := 1101) (v := (1 : Int32)) (show decode cX10_init 1100 = .ok (.iconst 1, 1) by decide +kernel) rfl (by decide) ?_
  refine tr_iast (pc' := 1102) (show decode cX10_init 1101 = .ok (.iastore, 1) by decide +kernel) rfl (sh_ar s62 (i := 2) rfl rfl) (by decide) ?_
  have s63 : hm_sh _ 179 205 _ := sh_wI (a := 181) (j := ((51 : Int32)).toNatClampNeg) (v := (1 : Int32)) s62
  replace r2 := rf_wI (b := 181) (i := ((51 : Int32)).toNatClampNeg) (v := (1 : Int32)) r2
  replace r3 := rf_wI (b := 181) (i := ((51 : Int32)).toNatClampNeg) (v := (1 : Int32)) r3
  refine tr_aload_n (pc' := 1103) (show decode cX10_init 1102 = .ok (.aload_n 0, 1) by decide +kernel) rfl rfl rfl ?_
  refine tr_getR (pc' := 1106) fl_HandRingModel_24 (show decode cX10_init 1103 = .ok (.getfield 24, 3) by decide +kernel) rfl (sh_at s63 (i := 0) rfl rfl) (rf_of r2) ?_
  refine tr_bipush (pc' := 1108) (v := (53 : Int32)) (show decode cX10_init 1106 = .ok (.bipush 53, 2) by decide +kernel) rfl (by decide) ?_
  refine tr_bipush (pc' := 1110) (v := (50 : Int32)) (show decode cX10_init 1108 = .ok (.bipush 50, 2) by decide +kernel) rfl (by decide) ?_
  refine tr_iast (pc' := 1111) (show decode cX10_init 1110 = .ok (.iastore, 1) by decide +kernel) rfl (sh_ar s63 (i := 2) rfl rfl) (by decide) ?_
  have s64 : hm_sh _ 179 205 _ := sh_wI (a := 181) (j := ((53 : Int32)).toNatClampNeg) (v := (50 : Int32)) s63
  replace r2 := rf_wI (b := 181) (i := ((53 : Int32)).toNatClampNeg) (v := (50 : Int32)) r2
  replace r3 := rf_wI (b := 181) (i := ((53 : Int32)).toNatClampNeg) (v := (50 : Int32)) r3
  refine tr_aload_n (pc' := 1112) (show decode cX10_init 1111 = .ok (.aload_n 0, 1) by decide +kernel) rfl rfl rfl ?_
  refine tr_getR (pc' := 1115) fl_HandRingModel_24 (show decode cX10_init 1112 = .ok (.getfield 24, 3) by decide +kernel) rfl (sh_at s64 (i := 0) rfl rfl) (rf_of r2) ?_
  refine tr_bipush (pc' := 1117) (v := (57 : Int32)) (show decode cX10_init 1115 = .ok (.bipush 57, 2) by decide +kernel) rfl (by decide) ?_
  refine tr_iconst (pc' := 1118) (v := (-1 : Int32)) (show decode cX10_init 1117 = .ok (.iconst (-1), 1) by decide +kernel) rfl (by decide) ?_
  refine tr_iast (pc' := 1119) (show decode cX10_init 1118 = .ok (.iastore, 1) by decide +kernel) rfl (sh_ar s64 (i := 2) rfl rfl) (by decide) ?_
  have s65 : hm_sh _ 179 205 _ := sh_wI (a := 181) (j := ((57 : Int32)).toNatClampNeg) (v := (-1 : Int32)) s64
  replace r2 := rf_wI (b := 181) (i := ((57 : Int32)).toNatClampNeg) (v := (-1 : Int32)) r2
  replace r3 := rf_wI (b := 181) (i := ((57 : Int32)).toNatClampNeg) (v := (-1 : Int32)) r3
  exact tr_vret rfl (show decode cX10_init 1119 = .ok (.return_, 1) by decide +kernel) hL
