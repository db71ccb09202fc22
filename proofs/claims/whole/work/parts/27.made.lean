/-! Program's constructor and its trimmed copy. -/
theorem kw_oi_i : Cond.instanceMethod Lib.objectInit ∈ hm_tb := hm_tb_in (tb_1 (List.mem_of_getElem? (i := 27) rfl)) rfl
theorem kw_oi_c : Cond.code Lib.objectInit ⟨#[0xb1]⟩ 1 none ∈ hm_tb := hm_tb_in (tb_1 (List.mem_of_getElem? (i := 28) rfl)) rfl
theorem lo_HandRing_3 : Cond.methodLink RX9 3 Lib.objectInit ∈ hm_tb := hm_tb_in (tb_1 (List.mem_of_getElem? (i := 26) rfl)) rfl
theorem lk_HandRing_11 : Cond.methodLink RX9 11 yX8_init ∈ hm_tb := hm_tb_in (tb_1 (List.mem_of_getElem? (i := 31) rfl)) rfl
theorem lk_HandRing_43 : Cond.methodLink RX9 43 yX1_init ∈ hm_tb := hm_tb_in (tb_1 (List.mem_of_getElem? (i := 170) rfl)) rfl
theorem lk_HandRing_52 : Cond.methodLink RX9 52 yX2_init ∈ hm_tb := hm_tb_in (tb_1 (List.mem_of_getElem? (i := 183) rfl)) rfl
theorem lk_HandRing_61 : Cond.methodLink RX9 61 yX0_init ∈ hm_tb := hm_tb_in (tb_1 (List.mem_of_getElem? (i := 218) rfl)) rfl
theorem lo_HandRing_Circle_3 : Cond.methodLink RX0 3 Lib.objectInit ∈ hm_tb := hm_tb_in (tb_1 (List.mem_of_getElem? (i := 221) rfl)) rfl
theorem lo_HandRing_Deeds_3 : Cond.methodLink RX1 3 Lib.objectInit ∈ hm_tb := hm_tb_in (tb_1 (List.mem_of_getElem? (i := 173) rfl)) rfl
theorem lo_HandRing_Errand_5 : Cond.methodLink RX2 5 Lib.objectInit ∈ hm_tb := hm_tb_in (tb_1 (List.mem_of_getElem? (i := 186) rfl)) rfl
theorem lk_HandRing_Errand_13 : Cond.methodLink RX2 13 yX4_init ∈ hm_tb := hm_tb_in (tb_1 (List.mem_of_getElem? (i := 188) rfl)) rfl
theorem lk_HandRing_Errand_22 : Cond.methodLink RX2 22 yX8_init ∈ hm_tb := hm_tb_in (tb_1 (List.mem_of_getElem? (i := 190) rfl)) rfl
theorem lo_HandRing_Judge_3 : Cond.methodLink RX3 3 Lib.objectInit ∈ hm_tb := hm_tb_in (tb_1 (List.mem_of_getElem? (i := 140) rfl)) rfl
theorem lk_HandRing_Judge_13 : Cond.methodLink RX3 13 yX4_init ∈ hm_tb := hm_tb_in (tb_1 (List.mem_of_getElem? (i := 143) rfl)) rfl
theorem lo_HandRing_Machine_3 : Cond.methodLink RX4 3 Lib.objectInit ∈ hm_tb := hm_tb_in (tb_1 (List.mem_of_getElem? (i := 146) rfl)) rfl
theorem lo_HandRing_Program_1 : Cond.methodLink RX5 1 Lib.objectInit ∈ hm_tb := hm_tb_in (tb_2 (List.mem_of_getElem? (i := 16) rfl)) rfl
theorem lk_HandRing_Program_36 : Cond.methodLink RX5 36 yX5_init ∈ hm_tb := hm_tb_in (tb_3 (List.mem_of_getElem? (i := 205) rfl)) rfl
theorem lo_HandRing_Reader_3 : Cond.methodLink RX6 3 Lib.objectInit ∈ hm_tb := hm_tb_in (tb_2 (List.mem_of_getElem? (i := 10) rfl)) rfl
theorem lk_HandRing_Reader_11 : Cond.methodLink RX6 11 yX5_init ∈ hm_tb := hm_tb_in (tb_2 (List.mem_of_getElem? (i := 13) rfl)) rfl
theorem lo_HandRing_Steps_5 : Cond.methodLink RX7 5 Lib.objectInit ∈ hm_tb := hm_tb_in (tb_1 (List.mem_of_getElem? (i := 120) rfl)) rfl
theorem lo_HandRing_Village_3 : Cond.methodLink RX8 3 Lib.objectInit ∈ hm_tb := hm_tb_in (tb_1 (List.mem_of_getElem? (i := 34) rfl)) rfl
theorem lo_HandRingModel_18 : Cond.methodLink RX10 18 Lib.objectInit ∈ hm_tb := hm_tb_in (tb_5 (List.mem_of_getElem? (i := 142) rfl)) rfl
theorem kw_arr_byte : Cond.arrayClass .byte ∈ hm_tb := hm_tb_in (tb_3 (List.mem_of_getElem? (i := 211) rfl)) rfl
theorem kw_arr_char : Cond.arrayClass .char ∈ hm_tb := hm_tb_in (tb_2 (List.mem_of_getElem? (i := 78) rfl)) rfl
theorem kw_arr_int : Cond.arrayClass .int ∈ hm_tb := hm_tb_in (tb_1 (List.mem_of_getElem? (i := 113) rfl)) rfl
theorem kw_arr_long : Cond.arrayClass .long ∈ hm_tb := hm_tb_in (tb_2 (List.mem_of_getElem? (i := 137) rfl)) rfl
theorem kw_arr_boolean : Cond.arrayClass .boolean ∈ hm_tb := hm_tb_in (tb_1 (List.mem_of_getElem? (i := 134) rfl)) rfl
theorem kw_in_0 : Cond.instantiable RX0 7 ∈ hm_tb := hm_tb_in (tb_1 (List.mem_of_getElem? (i := 217) rfl)) rfl
theorem kw_ini_0 : Cond.initialized RX0 ∈ hm_tb := hm_tb_in (tb_1 (List.mem_of_getElem? (i := 10) rfl)) rfl
theorem df_0 : ∀ j, j < 7 → defaultValue (tyX0 j) = vp_V ((hm_fT 0).map (fun b => if b = true then Value.null else .int 0)) j := by decide +kernel
theorem kw_in_1 : Cond.instantiable RX1 2 ∈ hm_tb := hm_tb_in (tb_1 (List.mem_of_getElem? (i := 169) rfl)) rfl
theorem kw_ini_1 : Cond.initialized RX1 ∈ hm_tb := hm_tb_in (tb_1 (List.mem_of_getElem? (i := 8) rfl)) rfl
theorem df_1 : ∀ j, j < 2 → defaultValue (tyX1 j) = vp_V ((hm_fT 1).map (fun b => if b = true then Value.null else .int 0)) j := by decide +kernel
theorem kw_in_2 : Cond.instantiable RX2 7 ∈ hm_tb := hm_tb_in (tb_1 (List.mem_of_getElem? (i := 182) rfl)) rfl
theorem kw_ini_2 : Cond.initialized RX2 ∈ hm_tb := hm_tb_in (tb_1 (List.mem_of_getElem? (i := 9) rfl)) rfl
theorem df_2 : ∀ j, j < 7 → defaultValue (tyX2 j) = vp_V ((hm_fT 2).map (fun b => if b = true then Value.null else .int 0)) j := by decide +kernel
theorem kw_in_3 : Cond.instantiable RX3 1 ∈ hm_tb := hm_tb_in (tb_1 (List.mem_of_getElem? (i := 136) rfl)) rfl
theorem kw_ini_3 : Cond.initialized RX3 ∈ hm_tb := hm_tb_in (tb_1 (List.mem_of_getElem? (i := 5) rfl)) rfl
theorem df_3 : ∀ j, j < 1 → defaultValue (tyX3 j) = vp_V ((hm_fT 3).map (fun b => if b = true then Value.null else .int 0)) j := by decide +kernel
theorem kw_in_4 : Cond.instantiable RX4 3 ∈ hm_tb := hm_tb_in (tb_1 (List.mem_of_getElem? (i := 142) rfl)) rfl
theorem kw_ini_4 : Cond.initialized RX4 ∈ hm_tb := hm_tb_in (tb_1 (List.mem_of_getElem? (i := 6) rfl)) rfl
theorem df_4 : ∀ j, j < 3 → defaultValue (tyX4 j) = vp_V ((hm_fT 4).map (fun b => if b = true then Value.null else .int 0)) j := by decide +kernel
theorem kw_in_5 : Cond.instantiable RX5 6 ∈ hm_tb := hm_tb_in (tb_2 (List.mem_of_getElem? (i := 12) rfl)) rfl
theorem kw_ini_5 : Cond.initialized RX5 ∈ hm_tb := hm_tb_in (tb_1 (List.mem_of_getElem? (i := 12) rfl)) rfl
theorem df_5 : ∀ j, j < 6 → defaultValue (tyX5 j) = vp_V ((hm_fT 5).map (fun b => if b = true then Value.null else .int 0)) j := by decide +kernel
theorem kw_in_6 : Cond.instantiable RX6 10 ∈ hm_tb := hm_tb_in (tb_2 (List.mem_of_getElem? (i := 6) rfl)) rfl
theorem kw_ini_6 : Cond.initialized RX6 ∈ hm_tb := hm_tb_in (tb_1 (List.mem_of_getElem? (i := 11) rfl)) rfl
theorem df_6 : ∀ j, j < 10 → defaultValue (tyX6 j) = vp_V ((hm_fT 6).map (fun b => if b = true then Value.null else .int 0)) j := by decide +kernel
theorem kw_in_7 : Cond.instantiable RX7 3 ∈ hm_tb := hm_tb_in (tb_1 (List.mem_of_getElem? (i := 116) rfl)) rfl
theorem kw_ini_7 : Cond.initialized RX7 ∈ hm_tb := hm_tb_in (tb_1 (List.mem_of_getElem? (i := 4) rfl)) rfl
theorem df_7 : ∀ j, j < 3 → defaultValue (tyX7 j) = vp_V ((hm_fT 7).map (fun b => if b = true then Value.null else .int 0)) j := by decide +kernel
theorem kw_in_8 : Cond.instantiable RX8 13 ∈ hm_tb := hm_tb_in (tb_1 (List.mem_of_getElem? (i := 30) rfl)) rfl
theorem kw_ini_8 : Cond.initialized RX8 ∈ hm_tb := hm_tb_in (tb_1 (List.mem_of_getElem? (i := 2) rfl)) rfl
theorem df_8 : ∀ j, j < 13 → defaultValue (tyX8 j) = vp_V ((hm_fT 8).map (fun b => if b = true then Value.null else .int 0)) j := by decide +kernel
theorem kw_in_9 : Cond.instantiable RX9 19 ∈ hm_tb := hm_tb_in (tb_1 (List.mem_of_getElem? (i := 22) rfl)) rfl
theorem kw_ini_9 : Cond.initialized RX9 ∈ hm_tb := hm_tb_in (tb_1 (List.mem_of_getElem? (i := 1) rfl)) rfl
theorem df_9 : ∀ j, j < 19 → defaultValue (tyX9 j) = vp_V ((hm_fT 9).map (fun b => if b = true then Value.null else .int 0)) j := by decide +kernel
theorem kw_in_10 : Cond.instantiable RX10 56 ∈ hm_tb := hm_tb_in (tb_5 (List.mem_of_getElem? (i := 138) rfl)) rfl
theorem kw_ini_10 : Cond.initialized RX10 ∈ hm_tb := hm_tb_in (tb_1 (List.mem_of_getElem? (i := 13) rfl)) rfl
theorem df_10 : ∀ j, j < 56 → defaultValue (tyX10 j) = vp_V ((hm_fT 10).map (fun b => if b = true then Value.null else .int 0)) j := by decide +kernel
theorem kcl_HandRing_9 : Cond.classLink RX9 9 RX8 ∈ hm_tb := hm_tb_in (tb_1 (List.mem_of_getElem? (i := 29) rfl)) rfl
theorem kcl_HandRing_27 : Cond.classLink RX9 27 RX7 ∈ hm_tb := hm_tb_in (tb_1 (List.mem_of_getElem? (i := 115) rfl)) rfl
theorem kcl_HandRing_34 : Cond.classLink RX9 34 RX3 ∈ hm_tb := hm_tb_in (tb_1 (List.mem_of_getElem? (i := 135) rfl)) rfl
theorem kcl_HandRing_41 : Cond.classLink RX9 41 RX1 ∈ hm_tb := hm_tb_in (tb_1 (List.mem_of_getElem? (i := 168) rfl)) rfl
theorem kcl_HandRing_50 : Cond.classLink RX9 50 RX2 ∈ hm_tb := hm_tb_in (tb_1 (List.mem_of_getElem? (i := 181) rfl)) rfl
theorem kcl_HandRing_59 : Cond.classLink RX9 59 RX0 ∈ hm_tb := hm_tb_in (tb_1 (List.mem_of_getElem? (i := 216) rfl)) rfl
theorem kcl_HandRing_66 : Cond.classLink RX9 66 RX6 ∈ hm_tb := hm_tb_in (tb_2 (List.mem_of_getElem? (i := 5) rfl)) rfl
theorem kcl_HandRing_Errand_11 : Cond.classLink RX2 11 RX4 ∈ hm_tb := hm_tb_in (tb_1 (List.mem_of_getElem? (i := 187) rfl)) rfl
theorem kcl_HandRing_Errand_20 : Cond.classLink RX2 20 RX8 ∈ hm_tb := hm_tb_in (tb_1 (List.mem_of_getElem? (i := 189) rfl)) rfl
theorem kcl_HandRing_Errand_27 : Cond.classLink RX2 27 RX7 ∈ hm_tb := hm_tb_in (tb_1 (List.mem_of_getElem? (i := 191) rfl)) rfl
theorem kcl_HandRing_Judge_9 : Cond.classLink RX3 9 RX4 ∈ hm_tb := hm_tb_in (tb_1 (List.mem_of_getElem? (i := 141) rfl)) rfl
theorem kcl_HandRing_Program_14 : Cond.classLink RX5 14 RX5 ∈ hm_tb := hm_tb_in (tb_3 (List.mem_of_getElem? (i := 204) rfl)) rfl
theorem kcl_HandRing_Reader_9 : Cond.classLink RX6 9 RX5 ∈ hm_tb := hm_tb_in (tb_2 (List.mem_of_getElem? (i := 11) rfl)) rfl
theorem kcl_HandRing_Village_27 : Cond.classLink RX8 27 RX5 ∈ hm_tb := hm_tb_in (tb_1 (List.mem_of_getElem? (i := 35) rfl)) rfl
theorem okm_X0_init : hm_okI m_X0_init 1 := ⟨hm_tb_in (tb_1 (List.mem_of_getElem? (i := 220) rfl)) rfl, hm_tb_in (tb_1 (List.mem_of_getElem? (i := 219) rfl)) rfl, hm_tb_in (tb_1 (List.mem_of_getElem? (i := 10) rfl)) rfl, by decide, by decide +kernel, Nat.le_of_ble_eq_true rfl, rfl, rfl⟩
theorem okm_X10_init : hm_okI m_X10_init 0 := ⟨hm_tb_in (tb_5 (List.mem_of_getElem? (i := 141) rfl)) rfl, hm_tb_in (tb_5 (List.mem_of_getElem? (i := 140) rfl)) rfl, hm_tb_in (tb_1 (List.mem_of_getElem? (i := 13) rfl)) rfl, by decide, by decide +kernel, Nat.le_of_ble_eq_true rfl, rfl, rfl⟩
theorem okm_X1_init : hm_okI m_X1_init 1 := ⟨hm_tb_in (tb_1 (List.mem_of_getElem? (i := 172) rfl)) rfl, hm_tb_in (tb_1 (List.mem_of_getElem? (i := 171) rfl)) rfl, hm_tb_in (tb_1 (List.mem_of_getElem? (i := 8) rfl)) rfl, by decide, by decide +kernel, Nat.le_of_ble_eq_true rfl, rfl, rfl⟩
theorem okm_X2_init : hm_okI m_X2_init 2 := ⟨hm_tb_in (tb_1 (List.mem_of_getElem? (i := 185) rfl)) rfl, hm_tb_in (tb_1 (List.mem_of_getElem? (i := 184) rfl)) rfl, hm_tb_in (tb_1 (List.mem_of_getElem? (i := 9) rfl)) rfl, by decide, by decide +kernel, Nat.le_of_ble_eq_true rfl, rfl, rfl⟩
theorem okm_X3_init : hm_okI m_X3_init 0 := ⟨hm_tb_in (tb_1 (List.mem_of_getElem? (i := 139) rfl)) rfl, hm_tb_in (tb_1 (List.mem_of_getElem? (i := 138) rfl)) rfl, hm_tb_in (tb_1 (List.mem_of_getElem? (i := 5) rfl)) rfl, by decide, by decide +kernel, Nat.le_of_ble_eq_true rfl, rfl, rfl⟩
theorem okm_X4_init : hm_okI m_X4_init 1 := ⟨hm_tb_in (tb_1 (List.mem_of_getElem? (i := 145) rfl)) rfl, hm_tb_in (tb_1 (List.mem_of_getElem? (i := 144) rfl)) rfl, hm_tb_in (tb_1 (List.mem_of_getElem? (i := 6) rfl)) rfl, by decide, by decide +kernel, Nat.le_of_ble_eq_true rfl, rfl, rfl⟩
theorem okm_X5_init : hm_okI m_X5_init 2 := ⟨hm_tb_in (tb_2 (List.mem_of_getElem? (i := 15) rfl)) rfl, hm_tb_in (tb_2 (List.mem_of_getElem? (i := 14) rfl)) rfl, hm_tb_in (tb_1 (List.mem_of_getElem? (i := 12) rfl)) rfl, by decide, by decide +kernel, Nat.le_of_ble_eq_true rfl, rfl, rfl⟩
theorem okm_X6_init : hm_okI m_X6_init 0 := ⟨hm_tb_in (tb_2 (List.mem_of_getElem? (i := 9) rfl)) rfl, hm_tb_in (tb_2 (List.mem_of_getElem? (i := 8) rfl)) rfl, hm_tb_in (tb_1 (List.mem_of_getElem? (i := 11) rfl)) rfl, by decide, by decide +kernel, Nat.le_of_ble_eq_true rfl, rfl, rfl⟩
theorem okm_X7_init : hm_okI m_X7_init 0 := ⟨hm_tb_in (tb_1 (List.mem_of_getElem? (i := 119) rfl)) rfl, hm_tb_in (tb_1 (List.mem_of_getElem? (i := 118) rfl)) rfl, hm_tb_in (tb_1 (List.mem_of_getElem? (i := 4) rfl)) rfl, by decide, by decide +kernel, Nat.le_of_ble_eq_true rfl, rfl, rfl⟩
theorem okm_X8_init : hm_okI m_X8_init 0 := ⟨hm_tb_in (tb_1 (List.mem_of_getElem? (i := 33) rfl)) rfl, hm_tb_in (tb_1 (List.mem_of_getElem? (i := 32) rfl)) rfl, hm_tb_in (tb_1 (List.mem_of_getElem? (i := 2) rfl)) rfl, by decide, by decide +kernel, Nat.le_of_ble_eq_true rfl, rfl, rfl⟩
theorem okm_X9_init : hm_okI m_X9_init 0 := ⟨hm_tb_in (tb_1 (List.mem_of_getElem? (i := 25) rfl)) rfl, hm_tb_in (tb_1 (List.mem_of_getElem? (i := 24) rfl)) rfl, hm_tb_in (tb_1 (List.mem_of_getElem? (i := 1) rfl)) rfl, by decide, by decide +kernel, Nat.le_of_ble_eq_true rfl, rfl, rfl⟩
def hm_i5 (μ : hm_M) (o n1 n2 : Nat) : hm_M := hm_wR (hm_al (hm_wR (hm_al (hm_wR (hm_al μ 13 n1) o 0 (some (hm_nx μ))) 13 n1) o 1 (some (hm_nx μ + 1))) 13 (n2 * 6)) o 2 (some (hm_nx μ + 2))
theorem hm_at_al {μ : hm_M} {a c k L : Nat} (h : hm_at μ a c) : hm_at (hm_al μ k L) a c := ⟨h.1, by show a < hm_nx μ + 1; have := h.2.1; omega, by show (if a = hm_nx μ then k else hm_kd μ a) = c; rw [if_neg (by have := h.2.1; omega)]; exact h.2.2⟩
theorem hm_ar_al {μ : hm_M} {a c N k L : Nat} (h : hm_ar μ a c N) : hm_ar (hm_al μ k L) a c N := ⟨h.1, by show a < hm_nx μ + 1; have := h.2.1; omega, by show (if a = hm_nx μ then k else hm_kd μ a) = c; rw [if_neg (by have := h.2.1; omega)]; exact h.2.2.1, by show (if a = hm_nx μ then L else hm_ln μ a) = N; rw [if_neg (by have := h.2.1; omega)]; exact h.2.2.2⟩
theorem hm_at_new {μ : hm_M} {k L : Nat} (h : 64 ≤ hm_nx μ) : hm_at (hm_al μ k L) (hm_nx μ) k := ⟨h, Nat.lt_succ_self _, if_pos rfl⟩
theorem hm_ar_new {μ : hm_M} {k L : Nat} (h : 64 ≤ hm_nx μ) : hm_ar (hm_al μ k L) (hm_nx μ) k L := ⟨h, Nat.lt_succ_self _, if_pos rfl, if_pos rfl⟩
theorem hm_max0 {n : Nat} (h : n < 2 ^ 31) : (if (0 : Int32) < nI n then nI n else 0) = nI n := by
  by_cases z : (0 : Int32) < nI n
  · rw [if_pos z]
  · rw [if_neg z]
    cases n with
    | zero => rfl
    | succ n => exact absurd (nI_lt (a := 0) (Nat.succ_pos n) h) z
theorem hm_nfI (y : Option Nat) : narrow (.array .int) (va_rf y) = va_rf y ∧ fits (.array .int) (va_rf y) = true := by cases y <;> exact ⟨rfl, rfl⟩
theorem ok_X5_init {Λ : hm_M → Prop} {fr : Nat} (hfr : 1 ≤ fr) {o0 n1 n2 : Nat} (hn1 : n1 ≤ 400) (hn2 : n2 ≤ 12) (μ : hm_M) (ha : hm_at μ o0 5) (hL : Λ (hm_i5 μ o0 n1 n2)) : hm_CC Λ m_X5_init fr 3 872 [.ref o0, .int (nI n1), .int (nI n2)] μ none (hm_i5 μ o0 n1 n2) := by
  refine hm_enter (lv := [some (.ref o0), some (.int (nI n1)), some (.int (nI n2))]) (by decide) rfl (Nat.le_of_ble_eq_true rfl) ?_
  refine tr_aload_n (pc' := 1) (show decode cX5_init 0 = .ok (.aload_n 0, 1) by decide +kernel) rfl rfl rfl ?_
  refine tr_objInit (pc' := 4) lo_HandRing_Program_1 kw_oi_i kw_oi_c (show decode cX5_init 1 = .ok (.invokespecial 1, 3) by decide +kernel) rfl (Nat.le_of_ble_eq_true rfl) hfr ?_
  refine tr_aload_n (pc' := 5) (show decode cX5_init 4 = .ok (.aload_n 0, 1) by decide +kernel) rfl rfl rfl ?_
  refine tr_iconst (pc' := 6) (v := (0 : Int32)) (show decode cX5_init 5 = .ok (.iconst 0, 1) by decide +kernel) rfl (by decide) ?_
  refine tr_iload_n (pc' := 7) (show decode cX5_init 6 = .ok (.iload_n 1, 1) by decide +kernel) rfl rfl rfl ?_
  refine tr_max (pc' := 10) lk_HandRing_Program_7 kw_max_s kw_Math_i kw_max_c (show decode cX5_init 7 = .ok (.invokestatic 7, 3) by decide +kernel) rfl (Nat.le_of_ble_eq_true rfl) hfr ?_
  rw [hm_max0 (n := n1) (by omega)]
  refine tr_newarr (pc' := 12) (atype := .int) (ty := .int) (kd := 13) (t0 := 2) (L := n1) rfl ⟨by decide, by decide⟩ (fun _ => rfl) (fun _ _ h => h) (fun _ _ => rfl) kw_arr_int (nI_pos (by omega)) (nI_clamp (by omega)) (by show n1 * 4 ≤ 536870912; omega) (show decode cX5_init 10 = .ok (.newarray .int, 2) by decide +kernel) rfl (by omega) (by omega) ?_
  refine tr_putFR (pc' := 15) (x := some (hm_nx μ)) fl_HandRing_Program_13 rfl (fun q hq => by cases hq; rfl) (show decode cX5_init 12 = .ok (.putfield 13, 3) by decide +kernel) rfl (hm_at_al ha) hm_nfI ?_
  refine tr_aload_n (pc' := 16) (show decode cX5_init 15 = .ok (.aload_n 0, 1) by decide +kernel) rfl rfl rfl ?_
  refine tr_iconst (pc' := 17) (v := (0 : Int32)) (show decode cX5_init 16 = .ok (.iconst 0, 1) by decide +kernel) rfl (by decide) ?_
  refine tr_iload_n (pc' := 18) (show decode cX5_init 17 = .ok (.iload_n 1, 1) by decide +kernel) rfl rfl rfl ?_
  refine tr_max (pc' := 21) lk_HandRing_Program_7 kw_max_s kw_Math_i kw_max_c (show decode cX5_init 18 = .ok (.invokestatic 7, 3) by decide +kernel) rfl (Nat.le_of_ble_eq_true rfl) hfr ?_
  rw [hm_max0 (n := n1) (by omega)]
  refine tr_newarr (pc' := 23) (atype := .int) (ty := .int) (kd := 13) (t0 := 2) (L := n1) rfl ⟨by decide, by decide⟩ (fun _ => rfl) (fun _ _ h => h) (fun _ _ => rfl) kw_arr_int (nI_pos (by omega)) (nI_clamp (by omega)) (by show n1 * 4 ≤ 536870912; omega) (show decode cX5_init 21 = .ok (.newarray .int, 2) by decide +kernel) rfl (by omega) (by omega) ?_
  refine tr_putFR (pc' := 26) (x := some (hm_nx μ + 1)) fl_HandRing_Program_19 rfl (fun q hq => by cases hq; rfl) (show decode cX5_init 23 = .ok (.putfield 19, 3) by decide +kernel) rfl (hm_at_al (hm_at_al ha)) hm_nfI ?_
  refine tr_aload_n (pc' := 27) (show decode cX5_init 26 = .ok (.aload_n 0, 1) by decide +kernel) rfl rfl rfl ?_
  refine tr_iconst (pc' := 28) (v := (0 : Int32)) (show decode cX5_init 27 = .ok (.iconst 0, 1) by decide +kernel) rfl (by decide) ?_
  refine tr_iload_n (pc' := 29) (show decode cX5_init 28 = .ok (.iload_n 2, 1) by decide +kernel) rfl rfl rfl ?_
  refine tr_max (pc' := 32) lk_HandRing_Program_7 kw_max_s kw_Math_i kw_max_c (show decode cX5_init 29 = .ok (.invokestatic 7, 3) by decide +kernel) rfl (Nat.le_of_ble_eq_true rfl) hfr ?_
  rw [hm_max0 (n := n2) (by omega)]
  refine tr_bipush (pc' := 34) (v := (6 : Int32)) (show decode cX5_init 32 = .ok (.bipush 6, 2) by decide +kernel) rfl (by decide) ?_
  refine tr_imul (pc' := 35) (show decode cX5_init 34 = .ok (.imul, 1) by decide +kernel) rfl ?_
  rw [show nI n2 * 6 = nI (n2 * 6) from pk_mul n2 6]
  refine tr_newarr (pc' := 37) (atype := .int) (ty := .int) (kd := 13) (t0 := 2) (L := n2 * 6) rfl ⟨by decide, by decide⟩ (fun _ => rfl) (fun _ _ h => h) (fun _ _ => rfl) kw_arr_int (nI_pos (by omega)) (nI_clamp (by omega)) (by show n2 * 6 * 4 ≤ 536870912; omega) (show decode cX5_init 35 = .ok (.newarray .int, 2) by decide +kernel) rfl (by omega) (by omega) ?_
  refine tr_putFR (pc' := 40) (x := some (hm_nx μ + 2)) fl_HandRing_Program_22 rfl (fun q hq => by cases hq; rfl) (show decode cX5_init 37 = .ok (.putfield 22, 3) by decide +kernel) rfl (hm_at_al (hm_at_al (hm_at_al ha))) hm_nfI ?_
  exact tr_vret rfl (show decode cX5_init 40 = .ok (.return_, 1) by decide +kernel) hL
