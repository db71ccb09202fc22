/-! The constructors (printed by gen/ctor4.py). -/
theorem kw_rows : Cond.classLink RX7 11 "[[I" ∈ hm_tb := hm_tb_in (tb_1 (List.mem_of_getElem? (i := 121) rfl)) rfl
def i_X5 (o : Nat) (μ : hm_M) : hm_M := hm_i5 μ o 400 12
def ks_X5 (ks : List (Nat × Nat)) : List (Nat × Nat) := ((ks ++ [(13, 400)]) ++ [(13, 400)]) ++ [(13, 72)]
theorem sh_X5 {μ : hm_M} {b n n' : Nat} {ks : List (Nat × Nat)} {o : Nat} (h : hm_sh μ b n ks) (e : n + 3 = n') : hm_sh (i_X5 o μ) b n' (ks_X5 ks) := by
  subst e
  have h1 := sh_al (k := 13) (L := 400) h rfl
  have h2 := sh_wR (a := o) (j := 0) (v := some (hm_nx μ)) h1
  have h3 := sh_al (k := 13) (L := 400) h2 rfl
  have h4 := sh_wR (a := o) (j := 1) (v := some (hm_nx μ + 1)) h3
  have h5 := sh_al (k := 13) (L := 72) h4 rfl
  exact sh_wR (a := o) (j := 2) (v := some (hm_nx μ + 2)) h5
theorem rf_X5 {μ : hm_M} {a j : Nat} {x : Option Nat} {o : Nat} (s : hm_sh μ o (o + 1) [(5, 6)]) (h : μ.2.2.1 a j = x) (e : a < o) : (i_X5 o μ).2.2.1 a j = x := by
  have s0 := s
  have f1 := rf_al (k := 13) (L := 400) (sh_nx s0) h (by omega)
  have s1 : hm_sh _ o (o + 2) _ := sh_al (k := 13) (L := 400) s0 rfl
  have f2 := rf_wR (b := o) (i := 0) (v := some (hm_nx μ)) f1 (by omega)
  have s2 : hm_sh _ o (o + 2) _ := sh_wR (a := o) (j := 0) (v := some (hm_nx μ)) s1
  have f3 := rf_al (k := 13) (L := 400) (sh_nx s2) f2 (by omega)
  have s3 : hm_sh _ o (o + 3) _ := sh_al (k := 13) (L := 400) s2 rfl
  have f4 := rf_wR (b := o) (i := 1) (v := some (hm_nx μ + 1)) f3 (by omega)
  have s4 : hm_sh _ o (o + 3) _ := sh_wR (a := o) (j := 1) (v := some (hm_nx μ + 1)) s3
  have f5 := rf_al (k := 13) (L := 72) (sh_nx s4) f4 (by omega)
  exact rf_wR (b := o) (i := 2) (v := some (hm_nx μ + 2)) f5 (by omega)
theorem ok_X5_init9 {Λ : hm_M → Prop} {fr : Nat} {o : Nat} (hfr : 1 ≤ fr) (μ : hm_M) (s0 : hm_sh μ o (o + 1) [(5, 6)]) (hL : Λ (i_X5 o μ)) : hm_CC Λ m_X5_init fr 3 872 [.ref o, .int (400 : Int32), .int (12 : Int32)] μ none (i_X5 o μ) :=
  ok_X5_init (n1 := 400) (n2 := 12) hfr (by decide) (by decide) μ (sh_at s0 (i := 0) rfl rfl) hL
def i_X4n8 (o : Nat) (μ : hm_M) : hm_M := hm_wR (hm_al (hm_wR (hm_al (μ) 13 64) o 1 (some (o + 1))) 13 8) o 0 (some (o + 2))
def ks_X4n8 (ks : List (Nat × Nat)) : List (Nat × Nat) := ((ks ++ [(13, 64)]) ++ [(13, 8)])
theorem sh_X4n8 {μ : hm_M} {b n n' : Nat} {ks : List (Nat × Nat)} {o : Nat} (h : hm_sh μ b n ks) (e : n + 2 = n') : hm_sh (i_X4n8 o μ) b n' (ks_X4n8 ks) := by
  subst e
  have h1 := sh_al (k := 13) (L := 64) h rfl
  have h2 := sh_wR (a := o) (j := 1) (v := some (o + 1)) h1
  have h3 := sh_al (k := 13) (L := 8) h2 rfl
  have h4 := sh_wR (a := o) (j := 0) (v := some (o + 2)) h3
  exact h4
theorem rf_X4n8 {μ : hm_M} {a j : Nat} {x : Option Nat} {o : Nat} (s : hm_sh μ o (o + 1) [(4, 3)]) (h : μ.2.2.1 a j = x) (e : a < o) : (i_X4n8 o μ).2.2.1 a j = x := by
  have s0 := s
  have f1 := rf_al (k := 13) (L := 64) (sh_nx s0) h (by omega)
  have s1 : hm_sh _ o (o + 2) _ := sh_al (k := 13) (L := 64) (n' := o + 2) s0 rfl
  have f2 := rf_wR (b := o) (i := 1) (v := some (o + 1)) f1 (by omega)
  have s2 : hm_sh _ o (o + 2) _ := sh_wR (a := o) (j := 1) (v := some (o + 1)) s1
  have f3 := rf_al (k := 13) (L := 8) (sh_nx s2) f2 (by omega)
  have s3 : hm_sh _ o (o + 3) _ := sh_al (k := 13) (L := 8) (n' := o + 3) s2 rfl
  have f4 := rf_wR (b := o) (i := 0) (v := some (o + 2)) f3 (by omega)
  have s4 : hm_sh _ o (o + 3) _ := sh_wR (a := o) (j := 0) (v := some (o + 2)) s3
  exact f4
set_option maxRecDepth 100000 in
theorem ok_X4n8_init {Λ : hm_M → Prop} {fr : Nat} {o : Nat} (hfr : 1 ≤ fr) (μ : hm_M) (s0 : hm_sh μ o (o + 1) [(4, 3)]) (hL : Λ (i_X4n8 o μ)) : hm_CC Λ m_X4_init fr 2 72 [.ref o, .int (8 : Int32)] μ none (i_X4n8 o μ) := by
  refine hm_enter (lv := [some (.ref o), some (.int 8)]) (by decide) rfl (Nat.le_of_ble_eq_true rfl) ?_
  refine tr_aload_n (pc' := 1) (show decode cX4_init 0 = .ok (.aload_n 0, 1) by decide +kernel) rfl rfl rfl ?_
  refine tr_objInit (pc' := 4) lo_HandRing_Machine_3 kw_oi_i kw_oi_c (show decode cX4_init 1 = .ok (.invokespecial 3, 3) by decide +kernel) rfl (Nat.le_of_ble_eq_true rfl) (by omega) ?_
  refine tr_aload_n (pc' := 5) (show decode cX4_init 4 = .ok (.aload_n 0, 1) by decide +kernel) rfl rfl rfl ?_
  refine tr_bipush (pc' := 7) (v := (64 : Int32)) (show decode cX4_init 5 = .ok (.bipush 64, 2) by decide +kernel) rfl (by decide) ?_
  refine tn_int (pc' := 9) (n := o + 1) (L := 64) (sh_nx s0) (by decide) (by decide +kernel) (Nat.le_of_ble_eq_true rfl) (show decode cX4_init 7 = .ok (.newarray .int, 2) by decide +kernel) rfl (Nat.le_of_ble_eq_true rfl) (Nat.le_of_ble_eq_true rfl) ?_
  have s1 : hm_sh _ o (o + 2) _ := sh_al (k := 13) (L := 64) (n' := o + 2) s0 rfl
  refine tn_put (pc' := 12) (x := o + 1) fl_HandRing_Machine_11 rfl (fun q hq => by cases hq; rfl) (show decode cX4_init 9 = .ok (.putfield 11, 3) by decide +kernel) rfl (sh_at s1 (i := 0) rfl rfl) (hm_nfA _) ?_
  have s2 : hm_sh _ o (o + 2) _ := sh_wR (a := o) (j := 1) (v := some (o + 1)) s1
  refine tr_aload_n (pc' := 13) (show decode cX4_init 12 = .ok (.aload_n 0, 1) by decide +kernel) rfl rfl rfl ?_
  refine tr_iconst (pc' := 14) (v := (0 : Int32)) (show decode cX4_init 13 = .ok (.iconst 0, 1) by decide +kernel) rfl (by decide) ?_
  refine tr_iload_n (pc' := 15) (show decode cX4_init 14 = .ok (.iload_n 1, 1) by decide +kernel) rfl rfl rfl ?_
  refine tr_max (pc' := 18) lk_HandRing_Machine_15 kw_max_s kw_Math_i kw_max_c (show decode cX4_init 15 = .ok (.invokestatic 15, 3) by decide +kernel) rfl (Nat.le_of_ble_eq_true rfl) (by omega) ?_
  rw [show (if (0 : Int32) < ((8 : Int32)) then ((8 : Int32)) else 0) = (8 : Int32) by decide]
  refine tn_int (pc' := 20) (n := o + 2) (L := 8) (sh_nx s2) (by decide) (by decide +kernel) (Nat.le_of_ble_eq_true rfl) (show decode cX4_init 18 = .ok (.newarray .int, 2) by decide +kernel) rfl (Nat.le_of_ble_eq_true rfl) (Nat.le_of_ble_eq_true rfl) ?_
  have s3 : hm_sh _ o (o + 3) _ := sh_al (k := 13) (L := 8) (n' := o + 3) s2 rfl
  refine tn_put (pc' := 23) (x := o + 2) fl_HandRing_Machine_21 rfl (fun q hq => by cases hq; rfl) (show decode cX4_init 20 = .ok (.putfield 21, 3) by decide +kernel) rfl (sh_at s3 (i := 0) rfl rfl) (hm_nfA _) ?_
  have s4 : hm_sh _ o (o + 3) _ := sh_wR (a := o) (j := 0) (v := some (o + 2)) s3
  exact tr_vret rfl (show decode cX4_init 23 = .ok (.return_, 1) by decide +kernel) hL
def i_X4n21 (o : Nat) (μ : hm_M) : hm_M := hm_wR (hm_al (hm_wR (hm_al (μ) 13 64) o 1 (some (o + 1))) 13 21) o 0 (some (o + 2))
def ks_X4n21 (ks : List (Nat × Nat)) : List (Nat × Nat) := ((ks ++ [(13, 64)]) ++ [(13, 21)])
theorem sh_X4n21 {μ : hm_M} {b n n' : Nat} {ks : List (Nat × Nat)} {o : Nat} (h : hm_sh μ b n ks) (e : n + 2 = n') : hm_sh (i_X4n21 o μ) b n' (ks_X4n21 ks) := by
  subst e
  have h1 := sh_al (k := 13) (L := 64) h rfl
  have h2 := sh_wR (a := o) (j := 1) (v := some (o + 1)) h1
  have h3 := sh_al (k := 13) (L := 21) h2 rfl
  have h4 := sh_wR (a := o) (j := 0) (v := some (o + 2)) h3
  exact h4
theorem rf_X4n21 {μ : hm_M} {a j : Nat} {x : Option Nat} {o : Nat} (s : hm_sh μ o (o + 1) [(4, 3)]) (h : μ.2.2.1 a j = x) (e : a < o) : (i_X4n21 o μ).2.2.1 a j = x := by
  have s0 := s
  have f1 := rf_al (k := 13) (L := 64) (sh_nx s0) h (by omega)
  have s1 : hm_sh _ o (o + 2) _ := sh_al (k := 13) (L := 64) (n' := o + 2) s0 rfl
  have f2 := rf_wR (b := o) (i := 1) (v := some (o + 1)) f1 (by omega)
  have s2 : hm_sh _ o (o + 2) _ := sh_wR (a := o) (j := 1) (v := some (o + 1)) s1
  have f3 := rf_al (k := 13) (L := 21) (sh_nx s2) f2 (by omega)
  have s3 : hm_sh _ o (o + 3) _ := sh_al (k := 13) (L := 21) (n' := o + 3) s2 rfl
  have f4 := rf_wR (b := o) (i := 0) (v := some (o + 2)) f3 (by omega)
  have s4 : hm_sh _ o (o + 3) _ := sh_wR (a := o) (j := 0) (v := some (o + 2)) s3
  exact f4
set_option maxRecDepth 100000 in
theorem ok_X4n21_init {Λ : hm_M → Prop} {fr : Nat} {o : Nat} (hfr : 1 ≤ fr) (μ : hm_M) (s0 : hm_sh μ o (o + 1) [(4, 3)]) (hL : Λ (i_X4n21 o μ)) : hm_CC Λ m_X4_init fr 2 85 [.ref o, .int (21 : Int32)] μ none (i_X4n21 o μ) := by
  refine hm_enter (lv := [some (.ref o), some (.int 21)]) (by decide) rfl (Nat.le_of_ble_eq_true rfl) ?_
  refine tr_aload_n (pc' := 1) (show decode cX4_init 0 = .ok (.aload_n 0, 1) by decide +kernel) rfl rfl rfl ?_
  refine tr_objInit (pc' := 4) lo_HandRing_Machine_3 kw_oi_i kw_oi_c (show decode cX4_init 1 = .ok (.invokespecial 3, 3) by decide +kernel) rfl (Nat.le_of_ble_eq_true rfl) (by omega) ?_
  refine tr_aload_n (pc' := 5) (show decode cX4_init 4 = .ok (.aload_n 0, 1) by decide +kernel) rfl rfl rfl ?_
  refine tr_bipush (pc' := 7) (v := (64 : Int32)) (show decode cX4_init 5 = .ok (.bipush 64, 2) by decide +kernel) rfl (by decide) ?_
  refine tn_int (pc' := 9) (n := o + 1) (L := 64) (sh_nx s0) (by decide) (by decide +kernel) (Nat.le_of_ble_eq_true rfl) (show decode cX4_init 7 = .ok (.newarray .int, 2) by decide +kernel) rfl (Nat.le_of_ble_eq_true rfl) (Nat.le_of_ble_eq_true rfl) ?_
  have s1 : hm_sh _ o (o + 2) _ := sh_al (k := 13) (L := 64) (n' := o + 2) s0 rfl
  refine tn_put (pc' := 12) (x := o + 1) fl_HandRing_Machine_11 rfl (fun q hq => by cases hq; rfl) (show decode cX4_init 9 = .ok (.putfield 11, 3) by decide +kernel) rfl (sh_at s1 (i := 0) rfl rfl) (hm_nfA _) ?_
  have s2 : hm_sh _ o (o + 2) _ := sh_wR (a := o) (j := 1) (v := some (o + 1)) s1
  refine tr_aload_n (pc' := 13) (show decode cX4_init 12 = .ok (.aload_n 0, 1) by decide +kernel) rfl rfl rfl ?_
  refine tr_iconst (pc' := 14) (v := (0 : Int32)) (show decode cX4_init 13 = .ok (.iconst 0, 1) by decide +kernel) rfl (by decide) ?_
  refine tr_iload_n (pc' := 15) (show decode cX4_init 14 = .ok (.iload_n 1, 1) by decide +kernel) rfl rfl rfl ?_
  refine tr_max (pc' := 18) lk_HandRing_Machine_15 kw_max_s kw_Math_i kw_max_c (show decode cX4_init 15 = .ok (.invokestatic 15, 3) by decide +kernel) rfl (Nat.le_of_ble_eq_true rfl) (by omega) ?_
  rw [show (if (0 : Int32) < ((21 : Int32)) then ((21 : Int32)) else 0) = (21 : Int32) by decide]
  refine tn_int (pc' := 20) (n := o + 2) (L := 21) (sh_nx s2) (by decide) (by decide +kernel) (Nat.le_of_ble_eq_true rfl) (show decode cX4_init 18 = .ok (.newarray .int, 2) by decide +kernel) rfl (Nat.le_of_ble_eq_true rfl) (Nat.le_of_ble_eq_true rfl) ?_
  have s3 : hm_sh _ o (o + 3) _ := sh_al (k := 13) (L := 21) (n' := o + 3) s2 rfl
  refine tn_put (pc' := 23) (x := o + 2) fl_HandRing_Machine_21 rfl (fun q hq => by cases hq; rfl) (show decode cX4_init 20 = .ok (.putfield 21, 3) by decide +kernel) rfl (sh_at s3 (i := 0) rfl rfl) (hm_nfA _) ?_
  have s4 : hm_sh _ o (o + 3) _ := sh_wR (a := o) (j := 0) (v := some (o + 2)) s3
  exact tr_vret rfl (show decode cX4_init 23 = .ok (.return_, 1) by decide +kernel) hL
def i_X7 (o : Nat) (μ : hm_M) : hm_M := hm_wR (hm_mu (μ) 17 26) o 0 (some (o + 1))
def ks_X7 (ks : List (Nat × Nat)) : List (Nat × Nat) := (ks ++ [(18, 17)] ++ List.replicate 17 (13, 26))
theorem sh_X7 {μ : hm_M} {b n n' : Nat} {ks : List (Nat × Nat)} {o : Nat} (h : hm_sh μ b n ks) (e : n + 18 = n') : hm_sh (i_X7 o μ) b n' (ks_X7 ks) := by
  subst e
  have h1 := sh_mu (N := 17) (K := 26) h rfl
  have h2 := sh_wR (a := o) (j := 0) (v := some (o + 1)) h1
  exact h2
theorem rf_X7 {μ : hm_M} {a j : Nat} {x : Option Nat} {o : Nat} (s : hm_sh μ o (o + 1) [(7, 3)]) (h : μ.2.2.1 a j = x) (e : a < o) : (i_X7 o μ).2.2.1 a j = x := by
  have s0 := s
  have f1 := rf_mu (N := 17) (K := 26) (sh_nx s0) h (by omega)
  have s1 : hm_sh _ o (o + 19) _ := sh_mu (N := 17) (K := 26) (n' := o + 19) s0 rfl
  have f2 := rf_wR (b := o) (i := 0) (v := some (o + 1)) f1 (by omega)
  have s2 : hm_sh _ o (o + 19) _ := sh_wR (a := o) (j := 0) (v := some (o + 1)) s1
  exact f2
set_option maxRecDepth 100000 in
theorem ok_X7_init {Λ : hm_M → Prop} {fr : Nat} {o : Nat} (hfr : 1 ≤ fr) (μ : hm_M) (s0 : hm_sh μ o (o + 1) [(7, 3)]) (hL : Λ (i_X7 o μ)) : hm_CC Λ m_X7_init fr 18 459 [.ref o] μ none (i_X7 o μ) := by
  refine hm_enter (lv := [some (.ref o)]) (by decide) rfl (Nat.le_of_ble_eq_true rfl) ?_
  refine tr_aload_n (pc' := 1) (show decode cX7_init 0 = .ok (.aload_n 0, 1) by decide +kernel) rfl rfl rfl ?_
  refine tr_objInit (pc' := 4) lo_HandRing_Steps_5 kw_oi_i kw_oi_c (show decode cX7_init 1 = .ok (.invokespecial 5, 3) by decide +kernel) rfl (Nat.le_of_ble_eq_true rfl) (by omega) ?_
  refine tr_aload_n (pc' := 5) (show decode cX7_init 4 = .ok (.aload_n 0, 1) by decide +kernel) rfl rfl rfl ?_
  refine tr_bipush (pc' := 7) (v := (17 : Int32)) (show decode cX7_init 5 = .ok (.bipush 17, 2) by decide +kernel) rfl (by decide) ?_
  refine tr_bipush (pc' := 9) (v := (26 : Int32)) (show decode cX7_init 7 = .ok (.bipush 26, 2) by decide +kernel) rfl (by decide) ?_
  refine tn_multi (pc' := 13) (n := o + 1) (N := 17) (K := 26) (sh_nx s0) kw_rows kw_arr_int (by decide) (by decide) (by decide +kernel) (by decide +kernel) (Nat.le_of_ble_eq_true rfl) (Nat.le_of_ble_eq_true rfl) (show decode cX7_init 9 = .ok (.multianewarray 11 2, 4) by decide +kernel) rfl (Nat.le_of_ble_eq_true rfl) (Nat.le_of_ble_eq_true rfl) ?_
  have s1 : hm_sh _ o (o + 19) _ := sh_mu (N := 17) (K := 26) (n' := o + 19) s0 rfl
  refine tn_put (pc' := 16) (x := o + 1) fl_HandRing_Steps_13 rfl (fun q hq => by cases hq; rfl) (show decode cX7_init 13 = .ok (.putfield 13, 3) by decide +kernel) rfl (sh_at s1 (i := 0) rfl rfl) (hm_nfA _) ?_
  have s2 : hm_sh _ o (o + 19) _ := sh_wR (a := o) (j := 0) (v := some (o + 1)) s1
  exact tr_vret rfl (show decode cX7_init 16 = .ok (.return_, 1) by decide +kernel) hL
def i_X8 (o : Nat) (μ : hm_M) : hm_M := hm_cX (hm_wR (hm_al (hm_wR (hm_al (hm_wR (hm_al (hm_wI (hm_wR (hm_al (hm_wR (hm_al (hm_wR (hm_al (hm_wR (hm_al (hm_wR (hm_al (hm_wR (hm_al (μ) 13 8) o 1 (some (o + 1))) 13 8) o 2 (some (o + 2))) 13 8) o 3 (some (o + 3))) 13 8) o 4 (some (o + 4))) 13 4) o 5 (some (o + 5))) 16 6) o 6 (some (o + 6))) o 8 (-1 : Int32)) 13 6) o 9 (some (o + 7))) 13 6) o 10 (some (o + 8))) 13 6) o 11 (some (o + 9))) (fun j => ([0, 1, 0, 50] : List Int32).getD j 0) (o + 5) 0 0 4
def ks_X8 (ks : List (Nat × Nat)) : List (Nat × Nat) := (((((((((ks ++ [(13, 8)]) ++ [(13, 8)]) ++ [(13, 8)]) ++ [(13, 8)]) ++ [(13, 4)]) ++ [(16, 6)]) ++ [(13, 6)]) ++ [(13, 6)]) ++ [(13, 6)])
theorem sh_X8 {μ : hm_M} {b n n' : Nat} {ks : List (Nat × Nat)} {o : Nat} (h : hm_sh μ b n ks) (e : n + 9 = n') : hm_sh (i_X8 o μ) b n' (ks_X8 ks) := by
  subst e
  have h1 := sh_al (k := 13) (L := 8) h rfl
  have h2 := sh_wR (a := o) (j := 1) (v := some (o + 1)) h1
  have h3 := sh_al (k := 13) (L := 8) h2 rfl
  have h4 := sh_wR (a := o) (j := 2) (v := some (o + 2)) h3
  have h5 := sh_al (k := 13) (L := 8) h4 rfl
  have h6 := sh_wR (a := o) (j := 3) (v := some (o + 3)) h5
  have h7 := sh_al (k := 13) (L := 8) h6 rfl
  have h8 := sh_wR (a := o) (j := 4) (v := some (o + 4)) h7
  have h9 := sh_al (k := 13) (L := 4) h8 rfl
  have h10 := sh_wR (a := o) (j := 5) (v := some (o + 5)) h9
  have h11 := sh_al (k := 16) (L := 6) h10 rfl
  have h12 := sh_wR (a := o) (j := 6) (v := some (o + 6)) h11
  have h13 := sh_wI (a := o) (j := 8) (v := (-1 : Int32)) h12
  have h14 := sh_al (k := 13) (L := 6) h13 rfl
  have h15 := sh_wR (a := o) (j := 9) (v := some (o + 7)) h14
  have h16 := sh_al (k := 13) (L := 6) h15 rfl
  have h17 := sh_wR (a := o) (j := 10) (v := some (o + 8)) h16
  have h18 := sh_al (k := 13) (L := 6) h17 rfl
  have h19 := sh_wR (a := o) (j := 11) (v := some (o + 9)) h18
  have h20 := sh_cX (f := (fun j => ([0, 1, 0, 50] : List Int32).getD j 0)) (a1 := (o + 5)) (sp := 0) (dp := 0) (n1 := 4) h19
  exact h20
theorem rf_X8 {μ : hm_M} {a j : Nat} {x : Option Nat} {o : Nat} (s : hm_sh μ o (o + 1) [(8, 13)]) (h : μ.2.2.1 a j = x) (e : a < o) : (i_X8 o μ).2.2.1 a j = x := by
  have s0 := s
  have f1 := rf_al (k := 13) (L := 8) (sh_nx s0) h (by omega)
  have s1 : hm_sh _ o (o + 2) _ := sh_al (k := 13) (L := 8) (n' := o + 2) s0 rfl
  have f2 := rf_wR (b := o) (i := 1) (v := some (o + 1)) f1 (by omega)
  have s2 : hm_sh _ o (o + 2) _ := sh_wR (a := o) (j := 1) (v := some (o + 1)) s1
  have f3 := rf_al (k := 13) (L := 8) (sh_nx s2) f2 (by omega)
  have s3 : hm_sh _ o (o + 3) _ := sh_al (k := 13) (L := 8) (n' := o + 3) s2 rfl
  have f4 := rf_wR (b := o) (i := 2) (v := some (o + 2)) f3 (by omega)
  have s4 : hm_sh _ o (o + 3) _ := sh_wR (a := o) (j := 2) (v := some (o + 2)) s3
  have f5 := rf_al (k := 13) (L := 8) (sh_nx s4) f4 (by omega)
  have s5 : hm_sh _ o (o + 4) _ := sh_al (k := 13) (L := 8) (n' := o + 4) s4 rfl
  have f6 := rf_wR (b := o) (i := 3) (v := some (o + 3)) f5 (by omega)
  have s6 : hm_sh _ o (o + 4) _ := sh_wR (a := o) (j := 3) (v := some (o + 3)) s5
  have f7 := rf_al (k := 13) (L := 8) (sh_nx s6) f6 (by omega)
  have s7 : hm_sh _ o (o + 5) _ := sh_al (k := 13) (L := 8) (n' := o + 5) s6 rfl
  have f8 := rf_wR (b := o) (i := 4) (v := some (o + 4)) f7 (by omega)
  have s8 : hm_sh _ o (o + 5) _ := sh_wR (a := o) (j := 4) (v := some (o + 4)) s7
  have f9 := rf_al (k := 13) (L := 4) (sh_nx s8) f8 (by omega)
  have s9 : hm_sh _ o (o + 6) _ := sh_al (k := 13) (L := 4) (n' := o + 6) s8 rfl
  have f10 := rf_wR (b := o) (i := 5) (v := some (o + 5)) f9 (by omega)
  have s10 : hm_sh _ o (o + 6) _ := sh_wR (a := o) (j := 5) (v := some (o + 5)) s9
  have f11 := rf_al (k := 16) (L := 6) (sh_nx s10) f10 (by omega)
  have s11 : hm_sh _ o (o + 7) _ := sh_al (k := 16) (L := 6) (n' := o + 7) s10 rfl
  have f12 := rf_wR (b := o) (i := 6) (v := some (o + 6)) f11 (by omega)
  have s12 : hm_sh _ o (o + 7) _ := sh_wR (a := o) (j := 6) (v := some (o + 6)) s11
  have f13 := rf_wI (b := o) (i := 8) (v := (-1 : Int32)) f12
  have s13 : hm_sh _ o (o + 7) _ := sh_wI (a := o) (j := 8) (v := (-1 : Int32)) s12
  have f14 := rf_al (k := 13) (L := 6) (sh_nx s13) f13 (by omega)
  have s14 : hm_sh _ o (o + 8) _ := sh_al (k := 13) (L := 6) (n' := o + 8) s13 rfl
  have f15 := rf_wR (b := o) (i := 9) (v := some (o + 7)) f14 (by omega)
  have s15 : hm_sh _ o (o + 8) _ := sh_wR (a := o) (j := 9) (v := some (o + 7)) s14
  have f16 := rf_al (k := 13) (L := 6) (sh_nx s15) f15 (by omega)
  have s16 : hm_sh _ o (o + 9) _ := sh_al (k := 13) (L := 6) (n' := o + 9) s15 rfl
  have f17 := rf_wR (b := o) (i := 10) (v := some (o + 8)) f16 (by omega)
  have s17 : hm_sh _ o (o + 9) _ := sh_wR (a := o) (j := 10) (v := some (o + 8)) s16
  have f18 := rf_al (k := 13) (L := 6) (sh_nx s17) f17 (by omega)
  have s18 : hm_sh _ o (o + 10) _ := sh_al (k := 13) (L := 6) (n' := o + 10) s17 rfl
  have f19 := rf_wR (b := o) (i := 11) (v := some (o + 9)) f18 (by omega)
  have s19 : hm_sh _ o (o + 10) _ := sh_wR (a := o) (j := 11) (v := some (o + 9)) s18
  have f20 := rf_cX (f := (fun j => ([0, 1, 0, 50] : List Int32).getD j 0)) (a1 := (o + 5)) (sp := 0) (dp := 0) (n1 := 4) f19
  have s20 : hm_sh _ o (o + 10) _ := sh_cX (f := (fun j => ([0, 1, 0, 50] : List Int32).getD j 0)) (a1 := (o + 5)) (sp := 0) (dp := 0) (n1 := 4) s19
  exact f20
set_option maxRecDepth 100000 in
theorem ok_X8_init {Λ : hm_M → Prop} {fr : Nat} {o : Nat} (hfr : 1 ≤ fr) (μ : hm_M) (s0 : hm_sh μ o (o + 1) [(8, 13)]) (hL : Λ (i_X8 o μ)) : hm_CC Λ m_X8_init fr 9 60 [.ref o] μ none (i_X8 o μ) := by
  refine hm_enter (lv := [some (.ref o)]) (by decide) rfl (Nat.le_of_ble_eq_true rfl) ?_
  refine tr_aload_n (pc' := 1) (show decode cX8_init 0 = .ok (.aload_n 0, 1) by decide +kernel) rfl rfl rfl ?_
  refine tr_objInit (pc' := 4) lo_HandRing_Village_3 kw_oi_i kw_oi_c (show decode cX8_init 1 = .ok (.invokespecial 3, 3) by decide +kernel) rfl (Nat.le_of_ble_eq_true rfl) (by omega) ?_
  refine tr_aload_n (pc' := 5) (show decode cX8_init 4 = .ok (.aload_n 0, 1) by decide +kernel) rfl rfl rfl ?_
  refine tr_bipush (pc' := 7) (v := (8 : Int32)) (show decode cX8_init 5 = .ok (.bipush 8, 2) by decide +kernel) rfl (by decide) ?_
  refine tn_int (pc' := 9) (n := o + 1) (L := 8) (sh_nx s0) (by decide) (by decide +kernel) (Nat.le_of_ble_eq_true rfl) (show decode cX8_init 7 = .ok (.newarray .int, 2) by decide +kernel) rfl (Nat.le_of_ble_eq_true rfl) (Nat.le_of_ble_eq_true rfl) ?_
  have s1 : hm_sh _ o (o + 2) _ := sh_al (k := 13) (L := 8) (n' := o + 2) s0 rfl
  refine tn_put (pc' := 12) (x := o + 1) fl_HandRing_Village_9 rfl (fun q hq => by cases hq; rfl) (show decode cX8_init 9 = .ok (.putfield 9, 3) by decide +kernel) rfl (sh_at s1 (i := 0) rfl rfl) (hm_nfA _) ?_
  have s2 : hm_sh _ o (o + 2) _ := sh_wR (a := o) (j := 1) (v := some (o + 1)) s1
  refine tr_aload_n (pc' := 13) (show decode cX8_init 12 = .ok (.aload_n 0, 1) by decide +kernel) rfl rfl rfl ?_
  refine tr_bipush (pc' := 15) (v := (8 : Int32)) (show decode cX8_init 13 = .ok (.bipush 8, 2) by decide +kernel) rfl (by decide) ?_
  refine tn_int (pc' := 17) (n := o + 2) (L := 8) (sh_nx s2) (by decide) (by decide +kernel) (Nat.le_of_ble_eq_true rfl) (show decode cX8_init 15 = .ok (.newarray .int, 2) by decide +kernel) rfl (Nat.le_of_ble_eq_true rfl) (Nat.le_of_ble_eq_true rfl) ?_
  have s3 : hm_sh _ o (o + 3) _ := sh_al (k := 13) (L := 8) (n' := o + 3) s2 rfl
  refine tn_put (pc' := 20) (x := o + 2) fl_HandRing_Village_15 rfl (fun q hq => by cases hq; rfl) (show decode cX8_init 17 = .ok (.putfield 15, 3) by decide +kernel) rfl (sh_at s3 (i := 0) rfl rfl) (hm_nfA _) ?_
  have s4 : hm_sh _ o (o + 3) _ := sh_wR (a := o) (j := 2) (v := some (o + 2)) s3
  refine tr_aload_n (pc' := 21) (show decode cX8_init 20 = .ok (.aload_n 0, 1) by decide +kernel) rfl rfl rfl ?_
  refine tr_bipush (pc' := 23) (v := (8 : Int32)) (show decode cX8_init 21 = .ok (.bipush 8, 2) by decide +kernel) rfl (by decide) ?_
  refine tn_int (pc' := 25) (n := o + 3) (L := 8) (sh_nx s4) (by decide) (by decide +kernel) (Nat.le_of_ble_eq_true rfl) (show decode cX8_init 23 = .ok (.newarray .int, 2) by decide +kernel) rfl (Nat.le_of_ble_eq_true rfl) (Nat.le_of_ble_eq_true rfl) ?_
  have s5 : hm_sh _ o (o + 4) _ := sh_al (k := 13) (L := 8) (n' := o + 4) s4 rfl
  refine tn_put (pc' := 28) (x := o + 3) fl_HandRing_Village_18 rfl (fun q hq => by cases hq; rfl) (show decode cX8_init 25 = .ok (.putfield 18, 3) by decide +kernel) rfl (sh_at s5 (i := 0) rfl rfl) (hm_nfA _) ?_
  have s6 : hm_sh _ o (o + 4) _ := sh_wR (a := o) (j := 3) (v := some (o + 3)) s5
  refine tr_aload_n (pc' := 29) (show decode cX8_init 28 = .ok (.aload_n 0, 1) by decide +kernel) rfl rfl rfl ?_
  refine tr_bipush (pc' := 31) (v := (8 : Int32)) (show decode cX8_init 29 = .ok (.bipush 8, 2) by decide +kernel) rfl (by decide) ?_
  refine tn_int (pc' := 33) (n := o + 4) (L := 8) (sh_nx s6) (by decide) (by decide +kernel) (Nat.le_of_ble_eq_true rfl) (show decode cX8_init 31 = .ok (.newarray .int, 2) by decide +kernel) rfl (Nat.le_of_ble_eq_true rfl) (Nat.le_of_ble_eq_true rfl) ?_
  have s7 : hm_sh _ o (o + 5) _ := sh_al (k := 13) (L := 8) (n' := o + 5) s6 rfl
  refine tn_put (pc' := 36) (x := o + 4) fl_HandRing_Village_21 rfl (fun q hq => by cases hq; rfl) (show decode cX8_init 33 = .ok (.putfield 21, 3) by decide +kernel) rfl (sh_at s7 (i := 0) rfl rfl) (hm_nfA _) ?_
  have s8 : hm_sh _ o (o + 5) _ := sh_wR (a := o) (j := 4) (v := some (o + 4)) s7
  refine tr_aload_n (pc' := 37) (show decode cX8_init 36 = .ok (.aload_n 0, 1) by decide +kernel) rfl rfl rfl ?_
  refine tr_iconst (pc' := 38) (v := (4 : Int32)) (show decode cX8_init 37 = .ok (.iconst 4, 1) by decide +kernel) rfl (by decide) ?_
  refine tn_int (pc' := 40) (n := o + 5) (L := 4) (sh_nx s8) (by decide) (by decide +kernel) (Nat.le_of_ble_eq_true rfl) (show decode cX8_init 38 = .ok (.newarray .int, 2) by decide +kernel) rfl (Nat.le_of_ble_eq_true rfl) (Nat.le_of_ble_eq_true rfl) ?_
  have s9 : hm_sh _ o (o + 6) _ := sh_al (k := 13) (L := 4) (n' := o + 6) s8 rfl
  refine tn_put (pc' := 43) (x := o + 5) fl_HandRing_Village_24 rfl (fun q hq => by cases hq; rfl) (show decode cX8_init 40 = .ok (.putfield 24, 3) by decide +kernel) rfl (sh_at s9 (i := 0) rfl rfl) (hm_nfA _) ?_
  have s10 : hm_sh _ o (o + 6) _ := sh_wR (a := o) (j := 5) (v := some (o + 5)) s9
  have r5 := rf_wSh s10
  refine tr_aload_n (pc' := 44) (show decode cX8_init 43 = .ok (.aload_n 0, 1) by decide +kernel) rfl rfl rfl ?_
  refine tr_bipush (pc' := 46) (v := (6 : Int32)) (show decode cX8_init 44 = .ok (.bipush 6, 2) by decide +kernel) rfl (by decide) ?_
  refine tn_aref (pc' := 49) (n := o + 6) (L := 6) (kd := 16) (t0 := 5) (sh_nx s10) (by decide) (fun _ => rfl) kcl_HandRing_Village_27 (fun g U h => h.2.2.2.2.1) (by decide) (by decide +kernel) (Nat.le_of_ble_eq_true rfl) (show decode cX8_init 46 = .ok (.anewarray 27, 3) by decide +kernel) rfl (Nat.le_of_ble_eq_true rfl) (Nat.le_of_ble_eq_true rfl) ?_
  have s11 : hm_sh _ o (o + 7) _ := sh_al (k := 16) (L := 6) (n' := o + 7) s10 rfl
  replace r5 := rf_al (k := 16) (L := 6) (sh_nx s10) r5 (by omega)
  refine tn_put (pc' := 52) (x := o + 6) fl_HandRing_Village_29 rfl (fun q hq => by cases hq; rfl) (show decode cX8_init 49 = .ok (.putfield 29, 3) by decide +kernel) rfl (sh_at s11 (i := 0) rfl rfl) (hm_nfA _) ?_
  have s12 : hm_sh _ o (o + 7) _ := sh_wR (a := o) (j := 6) (v := some (o + 6)) s11
  replace r5 := rf_wR (b := o) (i := 6) (v := some (o + 6)) r5 (by omega)
  refine tr_aload_n (pc' := 53) (show decode cX8_init 52 = .ok (.aload_n 0, 1) by decide +kernel) rfl rfl rfl ?_
  refine tr_iconst (pc' := 54) (v := (-1 : Int32)) (show decode cX8_init 53 = .ok (.iconst (-1), 1) by decide +kernel) rfl (by decide) ?_
  refine tp_pI (pc' := 57) fl_HandRing_Village_33 (show decode cX8_init 54 = .ok (.putfield 33, 3) by decide +kernel) rfl (sh_at s12 (i := 0) rfl rfl) rfl ?_
  have s13 : hm_sh _ o (o + 7) _ := sh_wI (a := o) (j := 8) (v := (-1 : Int32)) s12
  replace r5 := rf_wI (b := o) (i := 8) (v := (-1 : Int32)) r5
  refine tr_aload_n (pc' := 58) (show decode cX8_init 57 = .ok (.aload_n 0, 1) by decide +kernel) rfl rfl rfl ?_
  refine tr_bipush (pc' := 60) (v := (6 : Int32)) (show decode cX8_init 58 = .ok (.bipush 6, 2) by decide +kernel) rfl (by decide) ?_
  refine tn_int (pc' := 62) (n := o + 7) (L := 6) (sh_nx s13) (by decide) (by decide +kernel) (Nat.le_of_ble_eq_true rfl) (show decode cX8_init 60 = .ok (.newarray .int, 2) by decide +kernel) rfl (Nat.le_of_ble_eq_true rfl) (Nat.le_of_ble_eq_true rfl) ?_
  have s14 : hm_sh _ o (o + 8) _ := sh_al (k := 13) (L := 6) (n' := o + 8) s13 rfl
  replace r5 := rf_al (k := 13) (L := 6) (sh_nx s13) r5 (by omega)
  refine tn_put (pc' := 65) (x := o + 7) fl_HandRing_Village_37 rfl (fun q hq => by cases hq; rfl) (show decode cX8_init 62 = .ok (.putfield 37, 3) by decide +kernel) rfl (sh_at s14 (i := 0) rfl rfl) (hm_nfA _) ?_
  have s15 : hm_sh _ o (o + 8) _ := sh_wR (a := o) (j := 9) (v := some (o + 7)) s14
  replace r5 := rf_wR (b := o) (i := 9) (v := some (o + 7)) r5 (by omega)
  refine tr_aload_n (pc' := 66) (show decode cX8_init 65 = .ok (.aload_n 0, 1) by decide +kernel) rfl rfl rfl ?_
  refine tr_bipush (pc' := 68) (v := (6 : Int32)) (show decode cX8_init 66 = .ok (.bipush 6, 2) by decide +kernel) rfl (by decide) ?_
  refine tn_int (pc' := 70) (n := o + 8) (L := 6) (sh_nx s15) (by decide) (by decide +kernel) (Nat.le_of_ble_eq_true rfl) (show decode cX8_init 68 = .ok (.newarray .int, 2) by decide +kernel) rfl (Nat.le_of_ble_eq_true rfl) (Nat.le_of_ble_eq_true rfl) ?_
  have s16 : hm_sh _ o (o + 9) _ := sh_al (k := 13) (L := 6) (n' := o + 9) s15 rfl
  replace r5 := rf_al (k := 13) (L := 6) (sh_nx s15) r5 (by omega)
  refine tn_put (pc' := 73) (x := o + 8) fl_HandRing_Village_40 rfl (fun q hq => by cases hq; rfl) (show decode cX8_init 70 = .ok (.putfield 40, 3) by decide +kernel) rfl (sh_at s16 (i := 0) rfl rfl) (hm_nfA _) ?_
  have s17 : hm_sh _ o (o + 9) _ := sh_wR (a := o) (j := 10) (v := some (o + 8)) s16
  replace r5 := rf_wR (b := o) (i := 10) (v := some (o + 8)) r5 (by omega)
  refine tr_aload_n (pc' := 74) (show decode cX8_init 73 = .ok (.aload_n 0, 1) by decide +kernel) rfl rfl rfl ?_
  refine tr_bipush (pc' := 76) (v := (6 : Int32)) (show decode cX8_init 74 = .ok (.bipush 6, 2) by decide +kernel) rfl (by decide) ?_
  refine tn_int (pc' := 78) (n := o + 9) (L := 6) (sh_nx s17) (by decide) (by decide +kernel) (Nat.le_of_ble_eq_true rfl) (show decode cX8_init 76 = .ok (.newarray .int, 2) by decide +kernel) rfl (Nat.le_of_ble_eq_true rfl) (Nat.le_of_ble_eq_true rfl) ?_
  have s18 : hm_sh _ o (o + 10) _ := sh_al (k := 13) (L := 6) (n' := o + 10) s17 rfl
  replace r5 := rf_al (k := 13) (L := 6) (sh_nx s17) r5 (by omega)
  refine tn_put (pc' := 81) (x := o + 9) fl_HandRing_Village_43 rfl (fun q hq => by cases hq; rfl) (show decode cX8_init 78 = .ok (.putfield 43, 3) by decide +kernel) rfl (sh_at s18 (i := 0) rfl rfl) (hm_nfA _) ?_
  have s19 : hm_sh _ o (o + 10) _ := sh_wR (a := o) (j := 11) (v := some (o + 9)) s18
  replace r5 := rf_wR (b := o) (i := 11) (v := some (o + 9)) r5 (by omega)
  refine tr_getsN (pc' := 84) (i := 0) (j := 0) (host := "HandRing") rfl (by decide) rfl (show decode cX8_init 81 = .ok (.getstatic 46, 3) by decide +kernel) rfl ?_
  refine tr_iconst (pc' := 85) (v := (0 : Int32)) (show decode cX8_init 84 = .ok (.iconst 0, 1) by decide +kernel) rfl (by decide) ?_
  refine tr_aload_n (pc' := 86) (show decode cX8_init 85 = .ok (.aload_n 0, 1) by decide +kernel) rfl rfl rfl ?_
  refine tr_getR (pc' := 89) fl_HandRing_Village_24 (show decode cX8_init 86 = .ok (.getfield 24, 3) by decide +kernel) rfl (sh_at s19 (i := 0) rfl rfl) (rf_of r5) ?_
  refine tr_iconst (pc' := 90) (v := (0 : Int32)) (show decode cX8_init 89 = .ok (.iconst 0, 1) by decide +kernel) rfl (by decide) ?_
  refine tr_iconst (pc' := 91) (v := (4 : Int32)) (show decode cX8_init 90 = .ok (.iconst 4, 1) by decide +kernel) rfl (by decide) ?_
  refine tn_copyT (pc' := 94) (i0 := 0) (a1 := o + 5) (L1 := 4) rfl (by decide) lk_HandRing_Village_49 kw_ac_n kw_ac_s kw_Sys_i (show decode cX8_init 91 = .ok (.invokestatic 49, 3) by decide +kernel) rfl (Nat.le_of_ble_eq_true rfl) (by omega) (sh_ar s19 (i := 5) rfl rfl) (by decide) (by decide) (by decide) (by decide +kernel) (by decide +kernel) ?_
  have s20 : hm_sh _ o (o + 10) _ := sh_cX (f := (fun j => ([0, 1, 0, 50] : List Int32).getD j 0)) (a1 := (o + 5)) (sp := 0) (dp := 0) (n1 := 4) s19
  replace r5 := rf_cX (f := (fun j => ([0, 1, 0, 50] : List Int32).getD j 0)) (a1 := (o + 5)) (sp := 0) (dp := 0) (n1 := 4) r5
  exact tr_vret rfl (show decode cX8_init 94 = .ok (.return_, 1) by decide +kernel) hL
def i_X1 (o : Nat) (q1 : Nat) (μ : hm_M) : hm_M := hm_wR (hm_wR (hm_al (μ) 13 8) o 1 (some (o + 1))) o 0 (some (q1))
def ks_X1 (ks : List (Nat × Nat)) : List (Nat × Nat) := (ks ++ [(13, 8)])
theorem sh_X1 {μ : hm_M} {b n n' : Nat} {ks : List (Nat × Nat)} {o : Nat} {q1 : Nat} (h : hm_sh μ b n ks) (e : n + 1 = n') : hm_sh (i_X1 o q1 μ) b n' (ks_X1 ks) := by
  subst e
  have h1 := sh_al (k := 13) (L := 8) h rfl
  have h2 := sh_wR (a := o) (j := 1) (v := some (o + 1)) h1
  have h3 := sh_wR (a := o) (j := 0) (v := some (q1)) h2
  exact h3
theorem rf_X1 {μ : hm_M} {a j : Nat} {x : Option Nat} {o : Nat} {q1 : Nat} (s : hm_sh μ o (o + 1) [(1, 2)]) (h : μ.2.2.1 a j = x) (e : a < o) : (i_X1 o q1 μ).2.2.1 a j = x := by
  have s0 := s
  have f1 := rf_al (k := 13) (L := 8) (sh_nx s0) h (by omega)
  have s1 : hm_sh _ o (o + 2) _ := sh_al (k := 13) (L := 8) (n' := o + 2) s0 rfl
  have f2 := rf_wR (b := o) (i := 1) (v := some (o + 1)) f1 (by omega)
  have s2 : hm_sh _ o (o + 2) _ := sh_wR (a := o) (j := 1) (v := some (o + 1)) s1
  have f3 := rf_wR (b := o) (i := 0) (v := some (q1)) f2 (by omega)
  have s3 : hm_sh _ o (o + 2) _ := sh_wR (a := o) (j := 0) (v := some (q1)) s2
  exact f3
set_option maxRecDepth 100000 in
theorem ok_X1_init {Λ : hm_M → Prop} {fr : Nat} {o : Nat} {q1 : Nat} (hfr : 1 ≤ fr) (μ : hm_M) (s0 : hm_sh μ o (o + 1) [(1, 2)]) (hL : Λ (i_X1 o q1 μ)) : hm_CC Λ m_X1_init fr 1 8 [.ref o, .ref q1] μ none (i_X1 o q1 μ) := by
  refine hm_enter (lv := [some (.ref o), some (.ref q1)]) (by decide) rfl (Nat.le_of_ble_eq_true rfl) ?_
  refine tr_aload_n (pc' := 1) (show decode cX1_init 0 = .ok (.aload_n 0, 1) by decide +kernel) rfl rfl rfl ?_
  refine tr_objInit (pc' := 4) lo_HandRing_Deeds_3 kw_oi_i kw_oi_c (show decode cX1_init 1 = .ok (.invokespecial 3, 3) by decide +kernel) rfl (Nat.le_of_ble_eq_true rfl) (by omega) ?_
  refine tr_aload_n (pc' := 5) (show decode cX1_init 4 = .ok (.aload_n 0, 1) by decide +kernel) rfl rfl rfl ?_
  refine tr_bipush (pc' := 7) (v := (8 : Int32)) (show decode cX1_init 5 = .ok (.bipush 8, 2) by decide +kernel) rfl (by decide) ?_
  refine tn_int (pc' := 9) (n := o + 1) (L := 8) (sh_nx s0) (by decide) (by decide +kernel) (Nat.le_of_ble_eq_true rfl) (show decode cX1_init 7 = .ok (.newarray .int, 2) by decide +kernel) rfl (Nat.le_of_ble_eq_true rfl) (Nat.le_of_ble_eq_true rfl) ?_
  have s1 : hm_sh _ o (o + 2) _ := sh_al (k := 13) (L := 8) (n' := o + 2) s0 rfl
  refine tn_put (pc' := 12) (x := o + 1) fl_HandRing_Deeds_9 rfl (fun q hq => by cases hq; rfl) (show decode cX1_init 9 = .ok (.putfield 9, 3) by decide +kernel) rfl (sh_at s1 (i := 0) rfl rfl) (hm_nfA _) ?_
  have s2 : hm_sh _ o (o + 2) _ := sh_wR (a := o) (j := 1) (v := some (o + 1)) s1
  refine tr_aload_n (pc' := 13) (show decode cX1_init 12 = .ok (.aload_n 0, 1) by decide +kernel) rfl rfl rfl ?_
  refine tr_aload_n (pc' := 14) (show decode cX1_init 13 = .ok (.aload_n 1, 1) by decide +kernel) rfl rfl rfl ?_
  refine tn_put (pc' := 17) (x := q1) fl_HandRing_Deeds_15 rfl (fun q hq => by cases hq; rfl) (show decode cX1_init 14 = .ok (.putfield 15, 3) by decide +kernel) rfl (sh_at s2 (i := 0) rfl rfl) (hm_nfO _) ?_
  have s3 : hm_sh _ o (o + 2) _ := sh_wR (a := o) (j := 0) (v := some (q1)) s2
  exact tr_vret rfl (show decode cX1_init 17 = .ok (.return_, 1) by decide +kernel) hL
def i_X0 (o : Nat) (q1 : Nat) (μ : hm_M) : hm_M := hm_wR (hm_wR (hm_al (hm_wR (hm_al (hm_wR (hm_al (hm_wR (hm_al (μ) 13 64) o 1 (some (o + 1))) 13 2048) o 2 (some (o + 2))) 13 2048) o 3 (some (o + 3))) 13 8) o 4 (some (o + 4))) o 0 (some (q1))
def ks_X0 (ks : List (Nat × Nat)) : List (Nat × Nat) := ((((ks ++ [(13, 64)]) ++ [(13, 2048)]) ++ [(13, 2048)]) ++ [(13, 8)])
theorem sh_X0 {μ : hm_M} {b n n' : Nat} {ks : List (Nat × Nat)} {o : Nat} {q1 : Nat} (h : hm_sh μ b n ks) (e : n + 4 = n') : hm_sh (i_X0 o q1 μ) b n' (ks_X0 ks) := by
  subst e
  have h1 := sh_al (k := 13) (L := 64) h rfl
  have h2 := sh_wR (a := o) (j := 1) (v := some (o + 1)) h1
  have h3 := sh_al (k := 13) (L := 2048) h2 rfl
  have h4 := sh_wR (a := o) (j := 2) (v := some (o + 2)) h3
  have h5 := sh_al (k := 13) (L := 2048) h4 rfl
  have h6 := sh_wR (a := o) (j := 3) (v := some (o + 3)) h5
  have h7 := sh_al (k := 13) (L := 8) h6 rfl
  have h8 := sh_wR (a := o) (j := 4) (v := some (o + 4)) h7
  have h9 := sh_wR (a := o) (j := 0) (v := some (q1)) h8
  exact h9
theorem rf_X0 {μ : hm_M} {a j : Nat} {x : Option Nat} {o : Nat} {q1 : Nat} (s : hm_sh μ o (o + 1) [(0, 7)]) (h : μ.2.2.1 a j = x) (e : a < o) : (i_X0 o q1 μ).2.2.1 a j = x := by
  have s0 := s
  have f1 := rf_al (k := 13) (L := 64) (sh_nx s0) h (by omega)
  have s1 : hm_sh _ o (o + 2) _ := sh_al (k := 13) (L := 64) (n' := o + 2) s0 rfl
  have f2 := rf_wR (b := o) (i := 1) (v := some (o + 1)) f1 (by omega)
  have s2 : hm_sh _ o (o + 2) _ := sh_wR (a := o) (j := 1) (v := some (o + 1)) s1
  have f3 := rf_al (k := 13) (L := 2048) (sh_nx s2) f2 (by omega)
  have s3 : hm_sh _ o (o + 3) _ := sh_al (k := 13) (L := 2048) (n' := o + 3) s2 rfl
  have f4 := rf_wR (b := o) (i := 2) (v := some (o + 2)) f3 (by omega)
  have s4 : hm_sh _ o (o + 3) _ := sh_wR (a := o) (j := 2) (v := some (o + 2)) s3
  have f5 := rf_al (k := 13) (L := 2048) (sh_nx s4) f4 (by omega)
  have s5 : hm_sh _ o (o + 4) _ := sh_al (k := 13) (L := 2048) (n' := o + 4) s4 rfl
  have f6 := rf_wR (b := o) (i := 3) (v := some (o + 3)) f5 (by omega)
  have s6 : hm_sh _ o (o + 4) _ := sh_wR (a := o) (j := 3) (v := some (o + 3)) s5
  have f7 := rf_al (k := 13) (L := 8) (sh_nx s6) f6 (by omega)
  have s7 : hm_sh _ o (o + 5) _ := sh_al (k := 13) (L := 8) (n' := o + 5) s6 rfl
  have f8 := rf_wR (b := o) (i := 4) (v := some (o + 4)) f7 (by omega)
  have s8 : hm_sh _ o (o + 5) _ := sh_wR (a := o) (j := 4) (v := some (o + 4)) s7
  have f9 := rf_wR (b := o) (i := 0) (v := some (q1)) f8 (by omega)
  have s9 : hm_sh _ o (o + 5) _ := sh_wR (a := o) (j := 0) (v := some (q1)) s8
  exact f9
set_option maxRecDepth 100000 in
theorem ok_X0_init {Λ : hm_M → Prop} {fr : Nat} {o : Nat} {q1 : Nat} (hfr : 1 ≤ fr) (μ : hm_M) (s0 : hm_sh μ o (o + 1) [(0, 7)]) (hL : Λ (i_X0 o q1 μ)) : hm_CC Λ m_X0_init fr 4 4168 [.ref o, .ref q1] μ none (i_X0 o q1 μ) := by
  refine hm_enter (lv := [some (.ref o), some (.ref q1)]) (by decide) rfl (Nat.le_of_ble_eq_true rfl) ?_
  refine tr_aload_n (pc' := 1) (show decode cX0_init 0 = .ok (.aload_n 0, 1) by decide +kernel) rfl rfl rfl ?_
  refine tr_objInit (pc' := 4) lo_HandRing_Circle_3 kw_oi_i kw_oi_c (show decode cX0_init 1 = .ok (.invokespecial 3, 3) by decide +kernel) rfl (Nat.le_of_ble_eq_true rfl) (by omega) ?_
  refine tr_aload_n (pc' := 5) (show decode cX0_init 4 = .ok (.aload_n 0, 1) by decide +kernel) rfl rfl rfl ?_
  refine tr_bipush (pc' := 7) (v := (64 : Int32)) (show decode cX0_init 5 = .ok (.bipush 64, 2) by decide +kernel) rfl (by decide) ?_
  refine tn_int (pc' := 9) (n := o + 1) (L := 64) (sh_nx s0) (by decide) (by decide +kernel) (Nat.le_of_ble_eq_true rfl) (show decode cX0_init 7 = .ok (.newarray .int, 2) by decide +kernel) rfl (Nat.le_of_ble_eq_true rfl) (Nat.le_of_ble_eq_true rfl) ?_
  have s1 : hm_sh _ o (o + 2) _ := sh_al (k := 13) (L := 64) (n' := o + 2) s0 rfl
  refine tn_put (pc' := 12) (x := o + 1) fl_HandRing_Circle_9 rfl (fun q hq => by cases hq; rfl) (show decode cX0_init 9 = .ok (.putfield 9, 3) by decide +kernel) rfl (sh_at s1 (i := 0) rfl rfl) (hm_nfA _) ?_
  have s2 : hm_sh _ o (o + 2) _ := sh_wR (a := o) (j := 1) (v := some (o + 1)) s1
  refine tr_aload_n (pc' := 13) (show decode cX0_init 12 = .ok (.aload_n 0, 1) by decide +kernel) rfl rfl rfl ?_
  refine tr_sipush (pc' := 16) (v := (2048 : Int32)) (show decode cX0_init 13 = .ok (.sipush 2048, 3) by decide +kernel) rfl (by decide) ?_
  refine tn_int (pc' := 18) (n := o + 2) (L := 2048) (sh_nx s2) (by decide) (by decide +kernel) (Nat.le_of_ble_eq_true rfl) (show decode cX0_init 16 = .ok (.newarray .int, 2) by decide +kernel) rfl (Nat.le_of_ble_eq_true rfl) (Nat.le_of_ble_eq_true rfl) ?_
  have s3 : hm_sh _ o (o + 3) _ := sh_al (k := 13) (L := 2048) (n' := o + 3) s2 rfl
  refine tn_put (pc' := 21) (x := o + 2) fl_HandRing_Circle_15 rfl (fun q hq => by cases hq; rfl) (show decode cX0_init 18 = .ok (.putfield 15, 3) by decide +kernel) rfl (sh_at s3 (i := 0) rfl rfl) (hm_nfA _) ?_
  have s4 : hm_sh _ o (o + 3) _ := sh_wR (a := o) (j := 2) (v := some (o + 2)) s3
  refine tr_aload_n (pc' := 22) (show decode cX0_init 21 = .ok (.aload_n 0, 1) by decide +kernel) rfl rfl rfl ?_
  refine tr_sipush (pc' := 25) (v := (2048 : Int32)) (show decode cX0_init 22 = .ok (.sipush 2048, 3) by decide +kernel) rfl (by decide) ?_
  refine tn_int (pc' := 27) (n := o + 3) (L := 2048) (sh_nx s4) (by decide) (by decide +kernel) (Nat.le_of_ble_eq_true rfl) (show decode cX0_init 25 = .ok (.newarray .int, 2) by decide +kernel) rfl (Nat.le_of_ble_eq_true rfl) (Nat.le_of_ble_eq_true rfl) ?_
  have s5 : hm_sh _ o (o + 4) _ := sh_al (k := 13) (L := 2048) (n' := o + 4) s4 rfl
  refine tn_put (pc' := 30) (x := o + 3) fl_HandRing_Circle_18 rfl (fun q hq => by cases hq; rfl) (show decode cX0_init 27 = .ok (.putfield 18, 3) by decide +kernel) rfl (sh_at s5 (i := 0) rfl rfl) (hm_nfA _) ?_
  have s6 : hm_sh _ o (o + 4) _ := sh_wR (a := o) (j := 3) (v := some (o + 3)) s5
  refine tr_aload_n (pc' := 31) (show decode cX0_init 30 = .ok (.aload_n 0, 1) by decide +kernel) rfl rfl rfl ?_
  refine tr_bipush (pc' := 33) (v := (8 : Int32)) (show decode cX0_init 31 = .ok (.bipush 8, 2) by decide +kernel) rfl (by decide) ?_
  refine tn_int (pc' := 35) (n := o + 4) (L := 8) (sh_nx s6) (by decide) (by decide +kernel) (Nat.le_of_ble_eq_true rfl) (show decode cX0_init 33 = .ok (.newarray .int, 2) by decide +kernel) rfl (Nat.le_of_ble_eq_true rfl) (Nat.le_of_ble_eq_true rfl) ?_
  have s7 : hm_sh _ o (o + 5) _ := sh_al (k := 13) (L := 8) (n' := o + 5) s6 rfl
  refine tn_put (pc' := 38) (x := o + 4) fl_HandRing_Circle_21 rfl (fun q hq => by cases hq; rfl) (show decode cX0_init 35 = .ok (.putfield 21, 3) by decide +kernel) rfl (sh_at s7 (i := 0) rfl rfl) (hm_nfA _) ?_
  have s8 : hm_sh _ o (o + 5) _ := sh_wR (a := o) (j := 4) (v := some (o + 4)) s7
  refine tr_aload_n (pc' := 39) (show decode cX0_init 38 = .ok (.aload_n 0, 1) by decide +kernel) rfl rfl rfl ?_
  refine tr_aload_n (pc' := 40) (show decode cX0_init 39 = .ok (.aload_n 1, 1) by decide +kernel) rfl rfl rfl ?_
  refine tn_put (pc' := 43) (x := q1) fl_HandRing_Circle_24 rfl (fun q hq => by cases hq; rfl) (show decode cX0_init 40 = .ok (.putfield 24, 3) by decide +kernel) rfl (sh_at s8 (i := 0) rfl rfl) (hm_nfO _) ?_
  have s9 : hm_sh _ o (o + 5) _ := sh_wR (a := o) (j := 0) (v := some (q1)) s8
  exact tr_vret rfl (show decode cX0_init 43 = .ok (.return_, 1) by decide +kernel) hL
def i_X3 (o : Nat) (μ : hm_M) : hm_M := hm_wR (i_X4n8 (o + 1) (hm_al (μ) 4 3)) o 0 (some (o + 1))
def ks_X3 (ks : List (Nat × Nat)) : List (Nat × Nat) := (ks_X4n8 (ks ++ [(4, 3)]))
theorem sh_X3 {μ : hm_M} {b n n' : Nat} {ks : List (Nat × Nat)} {o : Nat} (h : hm_sh μ b n ks) (e : n + 3 = n') : hm_sh (i_X3 o μ) b n' (ks_X3 ks) := by
  subst e
  have h1 := sh_al (k := 4) (L := 3) h rfl
  have h2 := sh_X4n8 (o := o + 1) h1 rfl
  have h3 := sh_wR (a := o) (j := 0) (v := some (o + 1)) h2
  exact h3
theorem rf_X3 {μ : hm_M} {a j : Nat} {x : Option Nat} {o : Nat} (s : hm_sh μ o (o + 1) [(3, 1)]) (h : μ.2.2.1 a j = x) (e : a < o) : (i_X3 o μ).2.2.1 a j = x := by
  have s0 := s
  have f1 := rf_al (k := 4) (L := 3) (sh_nx s0) h (by omega)
  have s1 : hm_sh _ o (o + 2) _ := sh_al (k := 4) (L := 3) (n' := o + 2) s0 rfl
  have f2 := rf_X4n8 (o := o + 1) (sh_last s1 rfl) f1 (by omega)
  have s2 : hm_sh _ o (o + 4) _ := sh_X4n8 (o := o + 1) (n' := o + 4) s1 rfl
  have f3 := rf_wR (b := o) (i := 0) (v := some (o + 1)) f2 (by omega)
  have s3 : hm_sh _ o (o + 4) _ := sh_wR (a := o) (j := 0) (v := some (o + 1)) s2
  exact f3
set_option maxRecDepth 100000 in
theorem ok_X3_init {Λ : hm_M → Prop} {fr : Nat} {o : Nat} (hfr : 2 ≤ fr) (μ : hm_M) (s0 : hm_sh μ o (o + 1) [(3, 1)]) (hL : Λ (i_X3 o μ)) : hm_CC Λ m_X3_init fr 3 75 [.ref o] μ none (i_X3 o μ) := by
  refine hm_enter (lv := [some (.ref o)]) (by decide) rfl (Nat.le_of_ble_eq_true rfl) ?_
  refine tr_aload_n (pc' := 1) (show decode cX3_init 0 = .ok (.aload_n 0, 1) by decide +kernel) rfl rfl rfl ?_
  refine tr_objInit (pc' := 4) lo_HandRing_Judge_3 kw_oi_i kw_oi_c (show decode cX3_init 1 = .ok (.invokespecial 3, 3) by decide +kernel) rfl (Nat.le_of_ble_eq_true rfl) (by omega) ?_
  refine tr_aload_n (pc' := 5) (show decode cX3_init 4 = .ok (.aload_n 0, 1) by decide +kernel) rfl rfl rfl ?_
  refine tn_newN (pc' := 8) (n := o + 1) (sh_nx s0) kl_4 tyX4 tyX4_ok df_4 kcl_HandRing_Judge_9 kw_in_4 kw_ini_4 (show decode cX3_init 5 = .ok (.new 9, 3) by decide +kernel) rfl (Nat.le_of_ble_eq_true rfl) (Nat.le_of_ble_eq_true rfl) ?_
  have s1 : hm_sh _ o (o + 2) _ := sh_al (k := 4) (L := 3) (n' := o + 2) s0 rfl
  refine tr_dup (pc' := 9) (show decode cX3_init 8 = .ok (.dup, 1) by decide +kernel) rfl rfl ?_
  refine tr_bipush (pc' := 11) (v := (8 : Int32)) (show decode cX3_init 9 = .ok (.bipush 8, 2) by decide +kernel) rfl (by decide) ?_
  refine tr_callI (pc' := 14) (a := o + 1) (As := [.int (8 : Int32)]) (fr1 := fr - 1) okm_X4_init lk_HandRing_Judge_13 (show decode cX3_init 11 = .ok (.invokespecial 13, 3) by decide +kernel) rfl (by have := s0.1; omega) rfl rfl (Nat.le_of_ble_eq_true rfl) (by omega) (Nat.le_of_ble_eq_true rfl) (Nat.le_of_ble_eq_true rfl) (ok_X4n8_init (Λ := fun _ => True) (o := o + 1) (by omega) _ (sh_last s1 rfl) trivial) ?_
  have s2 : hm_sh _ o (o + 4) _ := sh_X4n8 (o := o + 1) (n' := o + 4) s1 rfl
  refine tn_put (pc' := 17) (x := o + 1) fl_HandRing_Judge_16 rfl (fun q hq => by cases hq; rfl) (show decode cX3_init 14 = .ok (.putfield 16, 3) by decide +kernel) rfl (sh_at s2 (i := 0) rfl rfl) (hm_nfO _) ?_
  have s3 : hm_sh _ o (o + 4) _ := sh_wR (a := o) (j := 0) (v := some (o + 1)) s2
  exact tr_vret rfl (show decode cX3_init 17 = .ok (.return_, 1) by decide +kernel) hL
def i_X6 (o : Nat) (μ : hm_M) : hm_M := hm_wR (hm_al (hm_wR (i_X5 (o + 1) (hm_al (μ) 5 6)) o 0 (some (o + 1))) 12 0) o 1 (some (o + 5))
def ks_X6 (ks : List (Nat × Nat)) : List (Nat × Nat) := ((ks_X5 (ks ++ [(5, 6)])) ++ [(12, 0)])
theorem sh_X6 {μ : hm_M} {b n n' : Nat} {ks : List (Nat × Nat)} {o : Nat} (h : hm_sh μ b n ks) (e : n + 5 = n') : hm_sh (i_X6 o μ) b n' (ks_X6 ks) := by
  subst e
  have h1 := sh_al (k := 5) (L := 6) h rfl
  have h2 := sh_X5 (o := o + 1) h1 rfl
  have h3 := sh_wR (a := o) (j := 0) (v := some (o + 1)) h2
  have h4 := sh_al (k := 12) (L := 0) h3 rfl
  have h5 := sh_wR (a := o) (j := 1) (v := some (o + 5)) h4
  exact h5
theorem rf_X6 {μ : hm_M} {a j : Nat} {x : Option Nat} {o : Nat} (s : hm_sh μ o (o + 1) [(6, 10)]) (h : μ.2.2.1 a j = x) (e : a < o) : (i_X6 o μ).2.2.1 a j = x := by
  have s0 := s
  have f1 := rf_al (k := 5) (L := 6) (sh_nx s0) h (by omega)
  have s1 : hm_sh _ o (o + 2) _ := sh_al (k := 5) (L := 6) (n' := o + 2) s0 rfl
  have f2 := rf_X5 (o := o + 1) (sh_last s1 rfl) f1 (by omega)
  have s2 : hm_sh _ o (o + 5) _ := sh_X5 (o := o + 1) (n' := o + 5) s1 rfl
  have f3 := rf_wR (b := o) (i := 0) (v := some (o + 1)) f2 (by omega)
  have s3 : hm_sh _ o (o + 5) _ := sh_wR (a := o) (j := 0) (v := some (o + 1)) s2
  have f4 := rf_al (k := 12) (L := 0) (sh_nx s3) f3 (by omega)
  have s4 : hm_sh _ o (o + 6) _ := sh_al (k := 12) (L := 0) (n' := o + 6) s3 rfl
  have f5 := rf_wR (b := o) (i := 1) (v := some (o + 5)) f4 (by omega)
  have s5 : hm_sh _ o (o + 6) _ := sh_wR (a := o) (j := 1) (v := some (o + 5)) s4
  exact f5
set_option maxRecDepth 100000 in
theorem ok_X6_init {Λ : hm_M → Prop} {fr : Nat} {o : Nat} (hfr : 2 ≤ fr) (μ : hm_M) (s0 : hm_sh μ o (o + 1) [(6, 10)]) (hL : Λ (i_X6 o μ)) : hm_CC Λ m_X6_init fr 5 878 [.ref o] μ none (i_X6 o μ) := by
  refine hm_enter (lv := [some (.ref o)]) (by decide) rfl (Nat.le_of_ble_eq_true rfl) ?_
  refine tr_aload_n (pc' := 1) (show decode cX6_init 0 = .ok (.aload_n 0, 1) by decide +kernel) rfl rfl rfl ?_
  refine tr_objInit (pc' := 4) lo_HandRing_Reader_3 kw_oi_i kw_oi_c (show decode cX6_init 1 = .ok (.invokespecial 3, 3) by decide +kernel) rfl (Nat.le_of_ble_eq_true rfl) (by omega) ?_
  refine tr_aload_n (pc' := 5) (show decode cX6_init 4 = .ok (.aload_n 0, 1) by decide +kernel) rfl rfl rfl ?_
  refine tn_newN (pc' := 8) (n := o + 1) (sh_nx s0) kl_5 tyX5 tyX5_ok df_5 kcl_HandRing_Reader_9 kw_in_5 kw_ini_5 (show decode cX6_init 5 = .ok (.new 9, 3) by decide +kernel) rfl (Nat.le_of_ble_eq_true rfl) (Nat.le_of_ble_eq_true rfl) ?_
  have s1 : hm_sh _ o (o + 2) _ := sh_al (k := 5) (L := 6) (n' := o + 2) s0 rfl
  refine tr_dup (pc' := 9) (show decode cX6_init 8 = .ok (.dup, 1) by decide +kernel) rfl rfl ?_
  refine tr_sipush (pc' := 12) (v := (400 : Int32)) (show decode cX6_init 9 = .ok (.sipush 400, 3) by decide +kernel) rfl (by decide) ?_
  refine tr_bipush (pc' := 14) (v := (12 : Int32)) (show decode cX6_init 12 = .ok (.bipush 12, 2) by decide +kernel) rfl (by decide) ?_
  refine tr_callI (pc' := 17) (a := o + 1) (As := [.int (400 : Int32), .int (12 : Int32)]) (fr1 := fr - 1) okm_X5_init lk_HandRing_Reader_11 (show decode cX6_init 14 = .ok (.invokespecial 11, 3) by decide +kernel) rfl (by have := s0.1; omega) rfl rfl (Nat.le_of_ble_eq_true rfl) (by omega) (Nat.le_of_ble_eq_true rfl) (Nat.le_of_ble_eq_true rfl) (ok_X5_init9 (Λ := fun _ => True) (o := o + 1) (by omega) _ (sh_last s1 rfl) trivial) ?_
  have s2 : hm_sh _ o (o + 5) _ := sh_X5 (o := o + 1) (n' := o + 5) s1 rfl
  refine tn_put (pc' := 20) (x := o + 1) fl_HandRing_Reader_14 rfl (fun q hq => by cases hq; rfl) (show decode cX6_init 17 = .ok (.putfield 14, 3) by decide +kernel) rfl (sh_at s2 (i := 0) rfl rfl) (hm_nfO _) ?_
  have s3 : hm_sh _ o (o + 5) _ := sh_wR (a := o) (j := 0) (v := some (o + 1)) s2
  refine tr_aload_n (pc' := 21) (show decode cX6_init 20 = .ok (.aload_n 0, 1) by decide +kernel) rfl rfl rfl ?_
  refine tr_iconst (pc' := 22) (v := (0 : Int32)) (show decode cX6_init 21 = .ok (.iconst 0, 1) by decide +kernel) rfl (by decide) ?_
  refine tn_char (pc' := 24) (n := o + 5) (L := 0) (sh_nx s3) (by decide) (by decide +kernel) (Nat.le_of_ble_eq_true rfl) (show decode cX6_init 22 = .ok (.newarray .char, 2) by decide +kernel) rfl (Nat.le_of_ble_eq_true rfl) (Nat.le_of_ble_eq_true rfl) ?_
  have s4 : hm_sh _ o (o + 6) _ := sh_al (k := 12) (L := 0) (n' := o + 6) s3 rfl
  refine tr_putR (pc' := 27) (x := some (o + 5)) fl_HandRing_Reader_20 (show decode cX6_init 24 = .ok (.putfield 20, 3) by decide +kernel) rfl (sh_at s4 (i := 0) rfl rfl) (hm_nfA _) ?_
  have s5 : hm_sh _ o (o + 6) _ := sh_wR (a := o) (j := 1) (v := some (o + 5)) s4
  exact tr_vret rfl (show decode cX6_init 27 = .ok (.return_, 1) by decide +kernel) hL
def i_X2 (o : Nat) (q1 : Nat) (q2 : Nat) (μ : hm_M) : hm_M := hm_wR (hm_wR (hm_wR (i_X7 (o + 14) (hm_al (hm_wR (i_X8 (o + 4) (hm_al (hm_wR (i_X4n21 (o + 1) (hm_al (μ) 4 3)) o 2 (some (o + 1))) 8 13)) o 3 (some (o + 4))) 7 3)) o 4 (some (o + 14))) o 0 (some (q1))) o 1 (some (q2))
def ks_X2 (ks : List (Nat × Nat)) : List (Nat × Nat) := (ks_X7 ((ks_X8 ((ks_X4n21 (ks ++ [(4, 3)])) ++ [(8, 13)])) ++ [(7, 3)]))
theorem sh_X2 {μ : hm_M} {b n n' : Nat} {ks : List (Nat × Nat)} {o : Nat} {q1 q2 : Nat} (h : hm_sh μ b n ks) (e : n + 32 = n') : hm_sh (i_X2 o q1 q2 μ) b n' (ks_X2 ks) := by
  subst e
  have h1 := sh_al (k := 4) (L := 3) h rfl
  have h2 := sh_X4n21 (o := o + 1) h1 rfl
  have h3 := sh_wR (a := o) (j := 2) (v := some (o + 1)) h2
  have h4 := sh_al (k := 8) (L := 13) h3 rfl
  have h5 := sh_X8 (o := o + 4) h4 rfl
  have h6 := sh_wR (a := o) (j := 3) (v := some (o + 4)) h5
  have h7 := sh_al (k := 7) (L := 3) h6 rfl
  have h8 := sh_X7 (o := o + 14) h7 rfl
  have h9 := sh_wR (a := o) (j := 4) (v := some (o + 14)) h8
  have h10 := sh_wR (a := o) (j := 0) (v := some (q1)) h9
  have h11 := sh_wR (a := o) (j := 1) (v := some (q2)) h10
  exact h11
theorem rf_X2 {μ : hm_M} {a j : Nat} {x : Option Nat} {o : Nat} {q1 q2 : Nat} (s : hm_sh μ o (o + 1) [(2, 7)]) (h : μ.2.2.1 a j = x) (e : a < o) : (i_X2 o q1 q2 μ).2.2.1 a j = x := by
  have s0 := s
  have f1 := rf_al (k := 4) (L := 3) (sh_nx s0) h (by omega)
  have s1 : hm_sh _ o (o + 2) _ := sh_al (k := 4) (L := 3) (n' := o + 2) s0 rfl
  have f2 := rf_X4n21 (o := o + 1) (sh_last s1 rfl) f1 (by omega)
  have s2 : hm_sh _ o (o + 4) _ := sh_X4n21 (o := o + 1) (n' := o + 4) s1 rfl
  have f3 := rf_wR (b := o) (i := 2) (v := some (o + 1)) f2 (by omega)
  have s3 : hm_sh _ o (o + 4) _ := sh_wR (a := o) (j := 2) (v := some (o + 1)) s2
  have f4 := rf_al (k := 8) (L := 13) (sh_nx s3) f3 (by omega)
  have s4 : hm_sh _ o (o + 5) _ := sh_al (k := 8) (L := 13) (n' := o + 5) s3 rfl
  have f5 := rf_X8 (o := o + 4) (sh_last s4 rfl) f4 (by omega)
  have s5 : hm_sh _ o (o + 14) _ := sh_X8 (o := o + 4) (n' := o + 14) s4 rfl
  have f6 := rf_wR (b := o) (i := 3) (v := some (o + 4)) f5 (by omega)
  have s6 : hm_sh _ o (o + 14) _ := sh_wR (a := o) (j := 3) (v := some (o + 4)) s5
  have f7 := rf_al (k := 7) (L := 3) (sh_nx s6) f6 (by omega)
  have s7 : hm_sh _ o (o + 15) _ := sh_al (k := 7) (L := 3) (n' := o + 15) s6 rfl
  have f8 := rf_X7 (o := o + 14) (sh_last s7 rfl) f7 (by omega)
  have s8 : hm_sh _ o (o + 33) _ := sh_X7 (o := o + 14) (n' := o + 33) s7 rfl
  have f9 := rf_wR (b := o) (i := 4) (v := some (o + 14)) f8 (by omega)
  have s9 : hm_sh _ o (o + 33) _ := sh_wR (a := o) (j := 4) (v := some (o + 14)) s8
  have f10 := rf_wR (b := o) (i := 0) (v := some (q1)) f9 (by omega)
  have s10 : hm_sh _ o (o + 33) _ := sh_wR (a := o) (j := 0) (v := some (q1)) s9
  have f11 := rf_wR (b := o) (i := 1) (v := some (q2)) f10 (by omega)
  have s11 : hm_sh _ o (o + 33) _ := sh_wR (a := o) (j := 1) (v := some (q2)) s10
  exact f11
set_option maxRecDepth 100000 in
theorem ok_X2_init {Λ : hm_M → Prop} {fr : Nat} {o : Nat} {q1 q2 : Nat} (hfr : 2 ≤ fr) (μ : hm_M) (s0 : hm_sh μ o (o + 1) [(2, 7)]) (hL : Λ (i_X2 o q1 q2 μ)) : hm_CC Λ m_X2_init fr 32 623 [.ref o, .ref q1, .ref q2] μ none (i_X2 o q1 q2 μ) := by
  refine hm_enter (lv := [some (.ref o), some (.ref q1), some (.ref q2)]) (by decide) rfl (Nat.le_of_ble_eq_true rfl) ?_
  refine tr_aload_n (pc' := 1) (show decode cX2_init 0 = .ok (.aload_n 0, 1) by decide +kernel) rfl rfl rfl ?_
  refine tr_objInit (pc' := 4) lo_HandRing_Errand_5 kw_oi_i kw_oi_c (show decode cX2_init 1 = .ok (.invokespecial 5, 3) by decide +kernel) rfl (Nat.le_of_ble_eq_true rfl) (by omega) ?_
  refine tr_aload_n (pc' := 5) (show decode cX2_init 4 = .ok (.aload_n 0, 1) by decide +kernel) rfl rfl rfl ?_
  refine tn_newN (pc' := 8) (n := o + 1) (sh_nx s0) kl_4 tyX4 tyX4_ok df_4 kcl_HandRing_Errand_11 kw_in_4 kw_ini_4 (show decode cX2_init 5 = .ok (.new 11, 3) by decide +kernel) rfl (Nat.le_of_ble_eq_true rfl) (Nat.le_of_ble_eq_true rfl) ?_
  have s1 : hm_sh _ o (o + 2) _ := sh_al (k := 4) (L := 3) (n' := o + 2) s0 rfl
  refine tr_dup (pc' := 9) (show decode cX2_init 8 = .ok (.dup, 1) by decide +kernel) rfl rfl ?_
  refine tr_bipush (pc' := 11) (v := (21 : Int32)) (show decode cX2_init 9 = .ok (.bipush 21, 2) by decide +kernel) rfl (by decide) ?_
  refine tr_callI (pc' := 14) (a := o + 1) (As := [.int (21 : Int32)]) (fr1 := fr - 1) okm_X4_init lk_HandRing_Errand_13 (show decode cX2_init 11 = .ok (.invokespecial 13, 3) by decide +kernel) rfl (by have := s0.1; omega) rfl rfl (Nat.le_of_ble_eq_true rfl) (by omega) (Nat.le_of_ble_eq_true rfl) (Nat.le_of_ble_eq_true rfl) (ok_X4n21_init (Λ := fun _ => True) (o := o + 1) (by omega) _ (sh_last s1 rfl) trivial) ?_
  have s2 : hm_sh _ o (o + 4) _ := sh_X4n21 (o := o + 1) (n' := o + 4) s1 rfl
  refine tn_put (pc' := 17) (x := o + 1) fl_HandRing_Errand_16 rfl (fun q hq => by cases hq; rfl) (show decode cX2_init 14 = .ok (.putfield 16, 3) by decide +kernel) rfl (sh_at s2 (i := 0) rfl rfl) (hm_nfO _) ?_
  have s3 : hm_sh _ o (o + 4) _ := sh_wR (a := o) (j := 2) (v := some (o + 1)) s2
  refine tr_aload_n (pc' := 18) (show decode cX2_init 17 = .ok (.aload_n 0, 1) by decide +kernel) rfl rfl rfl ?_
  refine tn_newN (pc' := 21) (n := o + 4) (sh_nx s3) kl_8 tyX8 tyX8_ok df_8 kcl_HandRing_Errand_20 kw_in_8 kw_ini_8 (show decode cX2_init 18 = .ok (.new 20, 3) by decide +kernel) rfl (Nat.le_of_ble_eq_true rfl) (Nat.le_of_ble_eq_true rfl) ?_
  have s4 : hm_sh _ o (o + 5) _ := sh_al (k := 8) (L := 13) (n' := o + 5) s3 rfl
  refine tr_dup (pc' := 22) (show decode cX2_init 21 = .ok (.dup, 1) by decide +kernel) rfl rfl ?_
  refine tr_callI (pc' := 25) (a := o + 4) (As := []) (fr1 := fr - 1) okm_X8_init lk_HandRing_Errand_22 (show decode cX2_init 22 = .ok (.invokespecial 22, 3) by decide +kernel) rfl (by have := s0.1; omega) rfl rfl (Nat.le_of_ble_eq_true rfl) (by omega) (Nat.le_of_ble_eq_true rfl) (Nat.le_of_ble_eq_true rfl) (ok_X8_init (Λ := fun _ => True) (o := o + 4) (by omega) _ (sh_last s4 rfl) trivial) ?_
  have s5 : hm_sh _ o (o + 14) _ := sh_X8 (o := o + 4) (n' := o + 14) s4 rfl
  refine tn_put (pc' := 28) (x := o + 4) fl_HandRing_Errand_23 rfl (fun q hq => by cases hq; rfl) (show decode cX2_init 25 = .ok (.putfield 23, 3) by decide +kernel) rfl (sh_at s5 (i := 0) rfl rfl) (hm_nfO _) ?_
  have s6 : hm_sh _ o (o + 14) _ := sh_wR (a := o) (j := 3) (v := some (o + 4)) s5
  refine tr_aload_n (pc' := 29) (show decode cX2_init 28 = .ok (.aload_n 0, 1) by decide +kernel) rfl rfl rfl ?_
  refine tn_newN (pc' := 32) (n := o + 14) (sh_nx s6) kl_7 tyX7 tyX7_ok df_7 kcl_HandRing_Errand_27 kw_in_7 kw_ini_7 (show decode cX2_init 29 = .ok (.new 27, 3) by decide +kernel) rfl (Nat.le_of_ble_eq_true rfl) (Nat.le_of_ble_eq_true rfl) ?_
  have s7 : hm_sh _ o (o + 15) _ := sh_al (k := 7) (L := 3) (n' := o + 15) s6 rfl
  refine tr_dup (pc' := 33) (show decode cX2_init 32 = .ok (.dup, 1) by decide +kernel) rfl rfl ?_
  refine tr_callIN (pc' := 36) (a := o + 14) (As := []) (fr1 := fr - 1) (j := 2) (host := "HandRing") okm_X7_init rfl (show decode cX2_init 33 = .ok (.invokespecial 29, 3) by decide +kernel) rfl (by have := s0.1; omega) rfl rfl (Nat.le_of_ble_eq_true rfl) (by omega) (Nat.le_of_ble_eq_true rfl) (Nat.le_of_ble_eq_true rfl) (ok_X7_init (Λ := fun _ => True) (o := o + 14) (by omega) _ (sh_last s7 rfl) trivial) ?_
  have s8 : hm_sh _ o (o + 33) _ := sh_X7 (o := o + 14) (n' := o + 33) s7 rfl
  refine tn_put (pc' := 39) (x := o + 14) fl_HandRing_Errand_30 rfl (fun q hq => by cases hq; rfl) (show decode cX2_init 36 = .ok (.putfield 30, 3) by decide +kernel) rfl (sh_at s8 (i := 0) rfl rfl) (hm_nfO _) ?_
  have s9 : hm_sh _ o (o + 33) _ := sh_wR (a := o) (j := 4) (v := some (o + 14)) s8
  refine tr_aload_n (pc' := 40) (show decode cX2_init 39 = .ok (.aload_n 0, 1) by decide +kernel) rfl rfl rfl ?_
  refine tr_aload_n (pc' := 41) (show decode cX2_init 40 = .ok (.aload_n 1, 1) by decide +kernel) rfl rfl rfl ?_
  refine tn_put (pc' := 44) (x := q1) fl_HandRing_Errand_34 rfl (fun q hq => by cases hq; rfl) (show decode cX2_init 41 = .ok (.putfield 34, 3) by decide +kernel) rfl (sh_at s9 (i := 0) rfl rfl) (hm_nfO _) ?_
  have s10 : hm_sh _ o (o + 33) _ := sh_wR (a := o) (j := 0) (v := some (q1)) s9
  refine tr_aload_n (pc' := 45) (show decode cX2_init 44 = .ok (.aload_n 0, 1) by decide +kernel) rfl rfl rfl ?_
  refine tr_aload_n (pc' := 46) (show decode cX2_init 45 = .ok (.aload_n 2, 1) by decide +kernel) rfl rfl rfl ?_
  refine tn_put (pc' := 49) (x := q2) fl_HandRing_Errand_38 rfl (fun q hq => by cases hq; rfl) (show decode cX2_init 46 = .ok (.putfield 38, 3) by decide +kernel) rfl (sh_at s10 (i := 0) rfl rfl) (hm_nfO _) ?_
  have s11 : hm_sh _ o (o + 33) _ := sh_wR (a := o) (j := 1) (v := some (q2)) s10
  exact tr_vret rfl (show decode cX2_init 49 = .ok (.return_, 1) by decide +kernel) hL
