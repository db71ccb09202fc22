/-! Texts: length() and charAt() of the class's own String constants. -/
section HMS
variable {Λ Λ1 : hm_M → Prop} {d d1 : hm_D} {fr fr1 kc ks : Nat} {r r1 : Option Value} {μ μ' : hm_M} {pc pc' : Nat} {lv : List (Option Value)} {st st0 st' : List Value}
theorem tx_getV {i ix : Nat} (hi : i < 10) (hw : Cond.fieldLink d.1.cls ix "java/lang/String" "value" "[B" ∈ hm_tb) (hd : decode d.2.1 pc = .ok (.getfield ix, 3)) (hp : pc + 3 = pc') (K : hm_T Λ d fr kc ks r μ' pc' lv (.ref (20 + i) :: st) μ) : hm_T Λ d fr kc ks r μ' pc lv (.ref (4 + i) :: st) μ := by
  subst hp
  refine hm_go (fun l g p e R s m args below meth c H locs cells slots Q ls C w0 S L w => ?_) K
  show W p l e R s m args below meth c H locs cells slots Q (F0 m pc ls (.ref (hm_ad g (4 + i)) :: st.map (hm_cv g)))
  have w : W p l e R s m args below meth c H locs cells slots Q (F0 m (pc + 3) ls (.ref (hm_ad g (20 + i)) :: st.map (hm_cv g))) := w
  rw [hm_ad_lo (by omega)] at w ⊢
  exact vk_getf C.1 C.2.1 (C.2.2.2.2.2.2.2.2.2.1.2.1.1.1 i hi).2.2.1 S C.2.2.2.2.2.1 (C.2.2.2.2.2.2.2.1 _ hw) (fun _ h => h) hd w
theorem tx_getC {i ix : Nat} (hi : i < 10) (hw : Cond.fieldLink d.1.cls ix "java/lang/String" "coder" "B" ∈ hm_tb) (hd : decode d.2.1 pc = .ok (.getfield ix, 3)) (hp : pc + 3 = pc') (K : hm_T Λ d fr kc ks r μ' pc' lv (.int 0 :: st) μ) : hm_T Λ d fr kc ks r μ' pc lv (.ref (4 + i) :: st) μ := by
  subst hp
  refine hm_go (fun l g p e R s m args below meth c H locs cells slots Q ls C w0 S L w => ?_) K
  show W p l e R s m args below meth c H locs cells slots Q (F0 m pc ls (.ref (hm_ad g (4 + i)) :: st.map (hm_cv g)))
  rw [hm_ad_lo (by omega)]
  exact vk_getf C.1 C.2.1 (C.2.2.2.2.2.2.2.2.2.1.2.1.1.1 i hi).2.1 S C.2.2.2.2.2.1 (C.2.2.2.2.2.2.2.1 _ hw) (fun _ h => h) hd w
theorem tx_len {i : Nat} (hi : i < 10) (hd : decode d.2.1 pc = .ok (.arraylength, 1)) (hp : pc + 1 = pc') (K : hm_T Λ d fr kc ks r μ' pc' lv (.int (hm_sl i) :: st) μ) : hm_T Λ d fr kc ks r μ' pc lv (.ref (20 + i) :: st) μ := by
  subst hp
  refine hm_go (fun l g p e R s m args below meth c H locs cells slots Q ls C w0 S L w => ?_) K
  show W p l e R s m args below meth c H locs cells slots Q (F0 m pc ls (.ref (hm_ad g (20 + i)) :: st.map (hm_cv g)))
  rw [hm_ad_lo (by omega)]
  exact va_tlen C.1 C.2.1 (C.2.2.2.2.2.2.2.2.2.1.2.1.1.1 i hi).2.2.2 S rfl hd w
theorem tx_bald {i : Nat} {j x : Int32} (hi : i < 10) (hd : decode d.2.1 pc = .ok (.baload, 1)) (hp : pc + 1 = pc') (he : hm_sc i j = some x) (K : hm_T Λ d fr kc ks r μ' pc' lv (.int x :: st) μ) : hm_T Λ d fr kc ks r μ' pc lv (.int j :: .ref (20 + i) :: st) μ := by
  subst hp
  refine hm_go (fun l g p e R s m args below meth c H locs cells slots Q ls C w0 S L w => ?_) K
  show W p l e R s m args below meth c H locs cells slots Q (F0 m pc ls (.int j :: .ref (hm_ad g (20 + i)) :: st.map (hm_cv g)))
  rw [hm_ad_lo (by omega)]
  rcases hm_is he with ⟨-, he⟩ | ⟨hc, he⟩
  · cases he
  exact va_tb C.1 C.2.1 (C.2.2.2.2.2.2.2.2.2.1.2.1.1.1 i hi).2.2.2 S hc (congrArg Value.int (Option.some.inj he)) hd w
theorem tx_getsB {ix : Nat} (hw : Cond.fieldLink d.1.cls ix "java/lang/String" "COMPACT_STRINGS" "Z" ∈ hm_tb) (hd : decode d.2.1 pc = .ok (.getstatic ix, 3)) (hp : pc + 3 = pc') (K : hm_T Λ d fr kc ks r μ' pc' lv (.int 1 :: st) μ) : hm_T Λ d fr kc ks r μ' pc lv (st) μ := by
  subst hp
  refine hm_go (fun l g p e R s m args below meth c H locs cells slots Q ls C w0 S L w => ?_) K
  exact va_gets C.1 C.2.1 C.2.2.2.2.2.2.2.2.2.1.2.1.2.2.1 S C.2.2.2.2.2.1 (C.2.2.2.2.2.2.2.1 _ hw) (fun _ h => h) hd w
theorem tx_getsF {ix : Nat} (hw : Cond.fieldLink d.1.cls ix "jdk/internal/util/Preconditions" "SIOOBE_FORMATTER" "Ljava/util/function/BiFunction;" ∈ hm_tb) (hd : decode d.2.1 pc = .ok (.getstatic ix, 3)) (hp : pc + 3 = pc') (K : ∀ x, x = none ∨ x = some 40 → hm_T Λ d fr kc ks r μ' pc' lv (va_rf x :: st) μ) : hm_T Λ d fr kc ks r μ' pc lv st μ := by
  subst hp
  have K1 := K none (Or.inl rfl)
  have K2 := K (some 40) (Or.inr rfl)
  refine ⟨K1.1, fun l g p e s m args below meth c H locs cells slots mc ms ls C w S L h1 h2 => ?_⟩
  have w1 := K1.2 l g p e s m args below meth c H locs cells slots mc ms ls C w S L h1 h2
  have w2 := K2.2 l g p e s m args below meth c H locs cells slots mc ms ls C w S L h1 h2
  rcases C.2.2.2.2.2.2.2.2.2.1.2.1.2.2.2 with z | z
  · exact va_gets C.1 C.2.1 z S C.2.2.2.2.2.1 (C.2.2.2.2.2.2.2.1 _ hw) (fun _ h => h) hd w1
  · exact va_gets C.1 C.2.1 z S C.2.2.2.2.2.1 (C.2.2.2.2.2.2.2.1 _ hw) (fun _ h => h) hd w2
theorem tx_callV {i ix n : Nat} {As : List Value} (hi : i < 10) (hS : d1.1.cls = "java/lang/String") (ok : hm_okV d1 n) (hlk : Cond.methodLink d.1.cls ix d1.1 ∈ hm_tb) (hd : decode d.2.1 pc = .ok (.invokevirtual ix, 3)) (hp : pc + 3 = pc') (hn : As.length = n) (hst : As.reverse ++ .ref (4 + i) :: st = st0) (hcat : (st.map fun v => v.category).sum ≤ 8) (hfr : fr1 + 1 ≤ fr) (hc : hm_CC Λ1 d1 fr1 0 0 (.ref (4 + i) :: As) μ r1 μ) (hs' : r1.toList ++ st = st')
    (K : hm_T Λ d fr kc ks r μ' pc' lv st' μ) : hm_T Λ d fr kc ks r μ' pc lv st0 μ := by
  subst hp; subst hst; subst hs'
  obtain ⟨o1, o2, o3, o4, o5, o6, o7⟩ := ok
  refine hm_call (Nat.zero_le _) (Nat.zero_le _) (fun l g p e mc ms s m args below meth c H locs cells slots ls C w S L h1 h2 => ?_) K
  obtain ⟨cell, g1, g2, g3⟩ := vk_recv C.2.2.2.2.2.2.2.2.2.1.2.1.1 hi S
  have hts := C.2.2.2.2.2.2.2.1
  have hG : GoodIn hm_tb (wsV d.1.cls ix d1.1.cls d1.1 (hm_ws d1)) := by
    intro w hw
    rcases List.mem_append.mp hw with z | z
    · simp only [List.mem_cons, List.not_mem_nil, or_false] at z
      rcases z with rfl | rfl | rfl | rfl
      · exact hm_good _ hlk
      · exact hm_good _ o2
      · exact hm_good _ o3
      · exact hm_good _ o4
    · exact hm_gws o1 w z
  refine va_runV (own := d.1.cls) (C := d1.1.cls) (b := g.2.2.1 (4 + i)) (As := As.map (hm_cv g)) (Pc := hm_Pre g (.ref (4 + i) :: As) μ) (n := n) (nL := d.2.2.1) (cc := d.2.1) (Ts := hm_tb) (bytes := d1.2.1) (maxL := d1.2.2.1) (ret := d1.2.2.2) (index := ix) ⟨C.1, C.2.1, C.2.2.1, C.2.2.2.2.2.1, hts⟩ (hc.2 l g) (cwV n hts hG rfl rfl rfl ⟨rfl, o5.1, o5.2, o6⟩ ⟨?_, ?_⟩) ⟨hm_blind g _ μ, ⟨cell, g1, g2, by rw [hS]; exact g3⟩, fun U hU hW => ?_⟩ rfl (by rw [List.length_map]; exact hn) L.1 ?_ (lv_room (by rw [hm_cats]; exact hcat)) hd ⟨h1, h2⟩
  · show fr1 + 1 ≤ fr
    exact hfr
  · show 8 + (d1.2.2.1 + 11) + 40 * fr1 ≤ 40 * fr
    omega
  · have := hm_preU C w S (av := .ref (4 + i) :: As) U hU hW
    rw [List.map_cons] at this
    show hm_Pre g (.ref (4 + i) :: As) μ (Value.ref (g.2.2.1 (4 + i)) :: As.map (hm_cv g)).toArray U
    rw [← hm_ad_lo (g := g) (a := 4 + i) (by omega)]
    exact this
  · show (As.reverse ++ .ref (4 + i) :: st).map (hm_cv g) = _
    rw [hm_rev, List.map_cons]
    show _ ++ Value.ref (hm_ad g (4 + i)) :: _ = _
    rw [hm_ad_lo (by omega)]
end HMS
def m_J0_length_8abf5 : hm_D := (yJ0_length_8abf5, cJ0_length_8abf5, 1, (some .int))
def m_J0_charAt_5068e : hm_D := (yJ0_charAt_5068e, cJ0_charAt_5068e, 2, (some .char))
def m_J0_coder_7d493 : hm_D := (yJ0_coder_7d493, cJ0_coder_7d493, 1, (some .byte))
def m_J0_isLatin1_aae02 : hm_D := (yJ0_isLatin1_aae02, cJ0_isLatin1_aae02, 1, (some .boolean))
def m_J0_checkIndex_df160 : hm_D := (yJ0_checkIndex_df160, cJ0_checkIndex_df160, 2, none)
def m_J1_charAt_3b067 : hm_D := (yJ1_charAt_3b067, cJ1_charAt_3b067, 2, (some .char))
def m_J3_checkIndex_8e157 : hm_D := (yJ3_checkIndex_8e157, cJ3_checkIndex_8e157, 3, (some .int))
theorem pds_0 : (parseMethodDescriptor "()I").map (fun q => q.parameters.length) = some 0 := by decide +kernel
theorem pds_1 : (parseMethodDescriptor "(I)C").map (fun q => q.parameters.length) = some 1 := by decide +kernel
theorem pds_2 : (parseMethodDescriptor "()B").map (fun q => q.parameters.length) = some 0 := by decide +kernel
theorem pds_3 : (parseMethodDescriptor "()Z").map (fun q => q.parameters.length) = some 0 := by decide +kernel
theorem pds_4 : (parseMethodDescriptor "(II)V").map (fun q => q.parameters.length) = some 2 := by decide +kernel
theorem pds_5 : (parseMethodDescriptor "([BI)C").map (fun q => q.parameters.length) = some 2 := by decide +kernel
theorem pds_6 : (parseMethodDescriptor "(IILjava/util/function/BiFunction;)I").map (fun q => q.parameters.length) = some 3 := by decide +kernel
theorem okm_J0_length_8abf5 : hm_okV m_J0_length_8abf5 0 := ⟨hm_tb_in (tb_3 (List.mem_of_getElem? (i := 71) rfl)) rfl, hm_tb_in (tb_3 (List.mem_of_getElem? (i := 69) rfl)) rfl, hm_tb_in (tb_3 (List.mem_of_getElem? (i := 70) rfl)) rfl, hm_tb_in (tb_1 (List.mem_of_getElem? (i := 14) rfl)) rfl, by decide, pds_0, Nat.le_of_ble_eq_true rfl⟩
theorem okm_J0_charAt_5068e : hm_okV m_J0_charAt_5068e 1 := ⟨hm_tb_in (tb_3 (List.mem_of_getElem? (i := 81) rfl)) rfl, hm_tb_in (tb_3 (List.mem_of_getElem? (i := 79) rfl)) rfl, hm_tb_in (tb_3 (List.mem_of_getElem? (i := 80) rfl)) rfl, hm_tb_in (tb_1 (List.mem_of_getElem? (i := 14) rfl)) rfl, by decide, pds_1, Nat.le_of_ble_eq_true rfl⟩
theorem okm_J0_coder_7d493 : hm_okV m_J0_coder_7d493 0 := ⟨hm_tb_in (tb_3 (List.mem_of_getElem? (i := 75) rfl)) rfl, hm_tb_in (tb_3 (List.mem_of_getElem? (i := 73) rfl)) rfl, hm_tb_in (tb_3 (List.mem_of_getElem? (i := 74) rfl)) rfl, hm_tb_in (tb_1 (List.mem_of_getElem? (i := 14) rfl)) rfl, by decide, pds_2, Nat.le_of_ble_eq_true rfl⟩
theorem okm_J0_isLatin1_aae02 : hm_okV m_J0_isLatin1_aae02 0 := ⟨hm_tb_in (tb_3 (List.mem_of_getElem? (i := 85) rfl)) rfl, hm_tb_in (tb_3 (List.mem_of_getElem? (i := 83) rfl)) rfl, hm_tb_in (tb_3 (List.mem_of_getElem? (i := 84) rfl)) rfl, hm_tb_in (tb_1 (List.mem_of_getElem? (i := 14) rfl)) rfl, by decide, pds_3, Nat.le_of_ble_eq_true rfl⟩
theorem okm_J0_checkIndex_df160 : hm_okS m_J0_checkIndex_df160 2 := ⟨hm_tb_in (tb_3 (List.mem_of_getElem? (i := 91) rfl)) rfl, hm_tb_in (tb_3 (List.mem_of_getElem? (i := 90) rfl)) rfl, hm_tb_in (tb_1 (List.mem_of_getElem? (i := 14) rfl)) rfl, by decide, pds_4, Nat.le_of_ble_eq_true rfl⟩
theorem okm_J1_charAt_3b067 : hm_okS m_J1_charAt_3b067 2 := ⟨hm_tb_in (tb_3 (List.mem_of_getElem? (i := 88) rfl)) rfl, hm_tb_in (tb_3 (List.mem_of_getElem? (i := 87) rfl)) rfl, hm_tb_in (tb_1 (List.mem_of_getElem? (i := 15) rfl)) rfl, by decide, pds_5, Nat.le_of_ble_eq_true rfl⟩
theorem okm_J3_checkIndex_8e157 : hm_okS m_J3_checkIndex_8e157 3 := ⟨hm_tb_in (tb_3 (List.mem_of_getElem? (i := 96) rfl)) rfl, hm_tb_in (tb_3 (List.mem_of_getElem? (i := 95) rfl)) rfl, hm_tb_in (tb_1 (List.mem_of_getElem? (i := 16) rfl)) rfl, by decide, pds_6, Nat.le_of_ble_eq_true rfl⟩
theorem lk_java_lang_String_335 : Cond.methodLink RJ0 335 yJ0_coder_7d493 ∈ hm_tb := hm_tb_in (tb_3 (List.mem_of_getElem? (i := 72) rfl)) rfl
theorem lk_java_lang_String_492 : Cond.methodLink RJ0 492 yJ0_isLatin1_aae02 ∈ hm_tb := hm_tb_in (tb_3 (List.mem_of_getElem? (i := 82) rfl)) rfl
theorem lk_java_lang_String_495 : Cond.methodLink RJ0 495 yJ1_charAt_3b067 ∈ hm_tb := hm_tb_in (tb_3 (List.mem_of_getElem? (i := 86) rfl)) rfl
theorem lk_java_lang_StringLatin1_9 : Cond.methodLink RJ1 9 yJ0_checkIndex_df160 ∈ hm_tb := hm_tb_in (tb_3 (List.mem_of_getElem? (i := 89) rfl)) rfl
theorem lk_java_lang_String_1059 : Cond.methodLink RJ0 1059 yJ3_checkIndex_8e157 ∈ hm_tb := hm_tb_in (tb_3 (List.mem_of_getElem? (i := 94) rfl)) rfl
theorem fx_9 : Cond.fieldLink RJ0 9 "java/lang/String" "value" "[B" ∈ hm_tb := hm_tb_in (tb_8 (List.mem_of_getElem? (i := 136) rfl)) rfl
theorem fx_15 : Cond.fieldLink RJ0 15 "java/lang/String" "coder" "B" ∈ hm_tb := hm_tb_in (tb_8 (List.mem_of_getElem? (i := 137) rfl)) rfl
theorem fx_38 : Cond.fieldLink RJ0 38 "java/lang/String" "COMPACT_STRINGS" "Z" ∈ hm_tb := hm_tb_in (tb_3 (List.mem_of_getElem? (i := 76) rfl)) rfl
theorem fx_1053 : Cond.fieldLink RJ0 1053 "jdk/internal/util/Preconditions" "SIOOBE_FORMATTER" "Ljava/util/function/BiFunction;" ∈ hm_tb := hm_tb_in (tb_3 (List.mem_of_getElem? (i := 92) rfl)) rfl
theorem ok_J0_coder_7d493 {Λ : hm_M → Prop} {fr : Nat} {i : Nat} (hi : i < 10) (μ : hm_M) (hL : Λ μ) : hm_CC Λ m_J0_coder_7d493 fr 0 0 [.ref (4 + i)] μ (some (.int 0)) μ := by
  refine hm_enter (lv := [some (.ref (4 + i))]) (by decide) rfl (Nat.le_of_ble_eq_true rfl) ?_
  refine tx_getsB (pc' := 3) fx_38 (show decode cJ0_coder_7d493 0 = .ok (.getstatic 38, 3) by decide +kernel) rfl ?_
  refine tr_if_eq_f (tgt := 13) (pc' := 6) (by decide) (show decode cJ0_coder_7d493 3 = .ok (.ifCond .eq 10, 3) by decide +kernel) (by decide) rfl ?_
  refine tr_aload_n (pc' := 7) (show decode cJ0_coder_7d493 6 = .ok (.aload_n 0, 1) by decide +kernel) rfl rfl rfl ?_
  refine tx_getC (pc' := 10) hi fx_15 (show decode cJ0_coder_7d493 7 = .ok (.getfield 15, 3) by decide +kernel) rfl ?_
  refine tr_goto (tgt := 14) (show decode cJ0_coder_7d493 10 = .ok (.goto 4, 3) by decide +kernel) rfl ?_
  exact tr_zret rfl (by decide) (show decode cJ0_coder_7d493 14 = .ok (.ireturn, 1) by decide +kernel) hL
theorem hm_sl_shr : ∀ i, i < 10 → hm_sl i >>> ((0 : Int32) &&& 31) = hm_sl i := by decide +kernel
theorem ok_J0_length_8abf5 {Λ : hm_M → Prop} {fr : Nat} (hfr : 1 ≤ fr) {i : Nat} (hi : i < 10) (μ : hm_M) (hL : Λ μ) : hm_CC Λ m_J0_length_8abf5 fr 0 0 [.ref (4 + i)] μ (some (.int (hm_sl i))) μ := by
  refine hm_enter (lv := [some (.ref (4 + i))]) (by decide) rfl (Nat.le_of_ble_eq_true rfl) ?_
  refine tr_aload_n (pc' := 1) (show decode cJ0_length_8abf5 0 = .ok (.aload_n 0, 1) by decide +kernel) rfl rfl rfl ?_
  refine tx_getV (pc' := 4) hi fx_9 (show decode cJ0_length_8abf5 1 = .ok (.getfield 9, 3) by decide +kernel) rfl ?_
  refine tx_len (pc' := 5) hi (show decode cJ0_length_8abf5 4 = .ok (.arraylength, 1) by decide +kernel) rfl ?_
  refine tr_aload_n (pc' := 6) (show decode cJ0_length_8abf5 5 = .ok (.aload_n 0, 1) by decide +kernel) rfl rfl rfl ?_
  refine tx_callV (pc' := 9) (As := []) (fr1 := fr - 1) hi rfl okm_J0_coder_7d493 lk_java_lang_String_335 (show decode cJ0_length_8abf5 6 = .ok (.invokevirtual 335, 3) by decide +kernel) rfl rfl rfl (Nat.le_of_ble_eq_true rfl) (by omega) (ok_J0_coder_7d493 hi μ hL) (st' := [.int 0, .int (hm_sl i)]) rfl ?_
  refine tr_ishr (pc' := 10) (show decode cJ0_length_8abf5 9 = .ok (.ishr, 1) by decide +kernel) rfl ?_
  rw [hm_sl_shr i hi]
  exact tr_iret rfl (show decode cJ0_length_8abf5 10 = .ok (.ireturn, 1) by decide +kernel) hL
theorem ok_J0_isLatin1_aae02 {Λ : hm_M → Prop} {fr : Nat} {i : Nat} (hi : i < 10) (μ : hm_M) (hL : Λ μ) : hm_CC Λ m_J0_isLatin1_aae02 fr 0 0 [.ref (4 + i)] μ (some (.int 1)) μ := by
  refine hm_enter (lv := [some (.ref (4 + i))]) (by decide) rfl (Nat.le_of_ble_eq_true rfl) ?_
  refine tx_getsB (pc' := 3) fx_38 (show decode cJ0_isLatin1_aae02 0 = .ok (.getstatic 38, 3) by decide +kernel) rfl ?_
  refine tr_if_eq_f (tgt := 17) (pc' := 6) (by decide) (show decode cJ0_isLatin1_aae02 3 = .ok (.ifCond .eq 14, 3) by decide +kernel) (by decide) rfl ?_
  refine tr_aload_n (pc' := 7) (show decode cJ0_isLatin1_aae02 6 = .ok (.aload_n 0, 1) by decide +kernel) rfl rfl rfl ?_
  refine tx_getC (pc' := 10) hi fx_15 (show decode cJ0_isLatin1_aae02 7 = .ok (.getfield 15, 3) by decide +kernel) rfl ?_
  refine tr_if_ne_f (tgt := 17) (pc' := 13) rfl (show decode cJ0_isLatin1_aae02 10 = .ok (.ifCond .ne 7, 3) by decide +kernel) (by decide) rfl ?_
  refine tr_iconst (pc' := 14) (v := 1) (show decode cJ0_isLatin1_aae02 13 = .ok (.iconst 1, 1) by decide +kernel) rfl (by decide) ?_
  refine tr_goto (tgt := 18) (show decode cJ0_isLatin1_aae02 14 = .ok (.goto 4, 3) by decide +kernel) rfl ?_
  exact tr_zret rfl (by decide) (show decode cJ0_isLatin1_aae02 18 = .ok (.ireturn, 1) by decide +kernel) hL
theorem ok_J3_checkIndex_8e157 {Λ : hm_M → Prop} {fr : Nat} (i n : Int32) (x : Option Nat) (h0 : ¬ i < 0) (hn : i < n) (μ : hm_M) (hL : Λ μ) : hm_CC Λ m_J3_checkIndex_8e157 fr 0 0 [.int i, .int n, va_rf x] μ (some (.int i)) μ := by
  refine hm_enter (lv := [some (.int i), some (.int n), some (va_rf x)]) (by decide) (by cases x <;> rfl) (by cases x <;> exact Nat.le_of_ble_eq_true rfl) ?_
  refine tr_iload_n (pc' := 1) (show decode cJ3_checkIndex_8e157 0 = .ok (.iload_n 0, 1) by decide +kernel) rfl rfl rfl ?_
  refine tr_if_lt_f (tgt := 9) (pc' := 4) h0 (show decode cJ3_checkIndex_8e157 1 = .ok (.ifCond .lt 8, 3) by decide +kernel) (by decide) rfl ?_
  refine tr_iload_n (pc' := 5) (show decode cJ3_checkIndex_8e157 4 = .ok (.iload_n 0, 1) by decide +kernel) rfl rfl rfl ?_
  refine tr_iload_n (pc' := 6) (show decode cJ3_checkIndex_8e157 5 = .ok (.iload_n 1, 1) by decide +kernel) rfl rfl rfl ?_
  refine tr_icmp_lt_t (tgt := 16) hn (show decode cJ3_checkIndex_8e157 6 = .ok (.if_icmp .lt 10, 3) by decide +kernel) (by decide) ?_
  refine tr_iload_n (pc' := 17) (show decode cJ3_checkIndex_8e157 16 = .ok (.iload_n 0, 1) by decide +kernel) rfl rfl rfl ?_
  exact tr_iret rfl (show decode cJ3_checkIndex_8e157 17 = .ok (.ireturn, 1) by decide +kernel) hL
theorem ok_J0_checkIndex_df160 {Λ : hm_M → Prop} {fr : Nat} (hfr : 1 ≤ fr) (i n : Int32) (h0 : ¬ i < 0) (hn : i < n) (μ : hm_M) (hL : Λ μ) : hm_CC Λ m_J0_checkIndex_df160 fr 0 0 [.int i, .int n] μ none μ := by
  refine hm_enter (lv := [some (.int i), some (.int n)]) (by decide) rfl (Nat.le_of_ble_eq_true rfl) ?_
  refine tr_iload_n (pc' := 1) (show decode cJ0_checkIndex_df160 0 = .ok (.iload_n 0, 1) by decide +kernel) rfl rfl rfl ?_
  refine tr_iload_n (pc' := 2) (show decode cJ0_checkIndex_df160 1 = .ok (.iload_n 1, 1) by decide +kernel) rfl rfl rfl ?_
  refine tx_getsF (pc' := 5) fx_1053 (show decode cJ0_checkIndex_df160 2 = .ok (.getstatic 1053, 3) by decide +kernel) rfl (fun x hx => ?_)
  refine tp_callS (pc' := 8) (As := [.int i, .int n, va_rf x]) (fr1 := fr - 1) okm_J3_checkIndex_8e157 lk_java_lang_String_1059 (show decode cJ0_checkIndex_df160 5 = .ok (.invokestatic 1059, 3) by decide +kernel) rfl rfl rfl (Nat.le_of_ble_eq_true rfl) (by omega) (ok_J3_checkIndex_8e157 i n x h0 hn μ hL) (st' := [.int i]) rfl ?_
  refine tr_pop (pc' := 9) (show decode cJ0_checkIndex_df160 8 = .ok (.pop, 1) by decide +kernel) rfl rfl ?_
  exact tr_vret rfl (show decode cJ0_checkIndex_df160 9 = .ok (.return_, 1) by decide +kernel) hL
theorem hm_sc_in : ∀ i, i < 10 → (hm_sL.getD i 0 < 128 ∧ ∀ k, k < hm_sL.getD i 0 → ((((hm_sB.getD i []).getD k 0) &&& 255).toUInt32 % 65536).toInt32 = (hm_sB.getD i []).getD k 0 ∧ narrow .char (.int ((hm_sB.getD i []).getD k 0)) = .int ((hm_sB.getD i []).getD k 0)) := by decide +kernel
theorem ok_J1_charAt_3b067 {Λ : hm_M → Prop} {fr : Nat} (hfr : 2 ≤ fr) {i : Nat} (hi : i < 10) {j x : Int32} (h : hm_sc i j = some x) (μ : hm_M) (hL : Λ μ) : hm_CC Λ m_J1_charAt_3b067 fr 0 0 [.ref (20 + i), .int j] μ (some (.int x)) μ := by
  have h' := h
  rcases hm_is h' with ⟨-, h'⟩ | ⟨hc, h'⟩
  · cases h'
  have hx := Option.some.inj h'
  obtain ⟨hl, hk⟩ := hm_sc_in i hi
  have hjl : j.toNatClampNeg < hm_sL.getD i 0 := Nat.not_le.mp fun q => hc (Or.inr q)
  have h0 : ¬ j < 0 := fun q => hc (Or.inl q)
  obtain ⟨k, hk31, rfl⟩ := nI_of h0
  rw [nI_clamp hk31] at hjl hx
  obtain ⟨e1, e2⟩ := hk k hjl
  rw [hx] at e1 e2
  refine hm_enter (lv := [some (.ref (20 + i)), some (.int (nI k))]) (by decide) rfl (Nat.le_of_ble_eq_true rfl) ?_
  refine tr_iload_n (pc' := 1) (show decode cJ1_charAt_3b067 0 = .ok (.iload_n 1, 1) by decide +kernel) rfl rfl rfl ?_
  refine tr_aload_n (pc' := 2) (show decode cJ1_charAt_3b067 1 = .ok (.aload_n 0, 1) by decide +kernel) rfl rfl rfl ?_
  refine tx_len (pc' := 3) hi (show decode cJ1_charAt_3b067 2 = .ok (.arraylength, 1) by decide +kernel) rfl ?_
  refine tp_callS (pc' := 6) (As := [.int (nI k), .int (hm_sl i)]) (fr1 := fr - 1) okm_J0_checkIndex_df160 lk_java_lang_StringLatin1_9 (show decode cJ1_charAt_3b067 3 = .ok (.invokestatic 9, 3) by decide +kernel) rfl rfl rfl (Nat.le_of_ble_eq_true rfl) (by omega) (ok_J0_checkIndex_df160 (by omega) (nI k) (hm_sl i) h0 (nI_lt hjl (by omega)) μ hL) (st' := []) rfl ?_
  refine tr_aload_n (pc' := 7) (show decode cJ1_charAt_3b067 6 = .ok (.aload_n 0, 1) by decide +kernel) rfl rfl rfl ?_
  refine tr_iload_n (pc' := 8) (show decode cJ1_charAt_3b067 7 = .ok (.iload_n 1, 1) by decide +kernel) rfl rfl rfl ?_
  refine tx_bald (pc' := 9) hi (show decode cJ1_charAt_3b067 8 = .ok (.baload, 1) by decide +kernel) rfl h ?_
  refine tr_sipush (pc' := 12) (v := 255) (show decode cJ1_charAt_3b067 9 = .ok (.sipush 255, 3) by decide +kernel) rfl (by decide) ?_
  refine tr_iand (pc' := 13) (show decode cJ1_charAt_3b067 12 = .ok (.iand, 1) by decide +kernel) rfl ?_
  refine tr_i2c (pc' := 14) (show decode cJ1_charAt_3b067 13 = .ok (.i2c, 1) by decide +kernel) rfl ?_
  rw [e1]
  exact tr_zret rfl e2 (show decode cJ1_charAt_3b067 14 = .ok (.ireturn, 1) by decide +kernel) hL
theorem ok_J0_charAt_5068e {Λ : hm_M → Prop} {fr : Nat} (hfr : 3 ≤ fr) {i : Nat} (hi : i < 10) {j x : Int32} (h : hm_sc i j = some x) (μ : hm_M) (hL : Λ μ) : hm_CC Λ m_J0_charAt_5068e fr 0 0 [.ref (4 + i), .int j] μ (some (.int x)) μ := by
  have h' := h
  rcases hm_is h' with ⟨-, h'⟩ | ⟨hc, h'⟩
  · cases h'
  have hx := Option.some.inj h'
  have e2 := ((hm_sc_in i hi).2 j.toNatClampNeg (Nat.not_le.mp fun q => hc (Or.inr q))).2
  rw [hx] at e2
  refine hm_enter (lv := [some (.ref (4 + i)), some (.int j)]) (by decide) rfl (Nat.le_of_ble_eq_true rfl) ?_
  refine tr_aload_n (pc' := 1) (show decode cJ0_charAt_5068e 0 = .ok (.aload_n 0, 1) by decide +kernel) rfl rfl rfl ?_
  refine tx_callV (pc' := 4) (As := []) (fr1 := fr - 1) hi rfl okm_J0_isLatin1_aae02 lk_java_lang_String_492 (show decode cJ0_charAt_5068e 1 = .ok (.invokevirtual 492, 3) by decide +kernel) rfl rfl rfl (Nat.le_of_ble_eq_true rfl) (by omega) (ok_J0_isLatin1_aae02 hi μ hL) (st' := [.int 1]) rfl ?_
  refine tr_if_eq_f (tgt := 16) (pc' := 7) (by decide) (show decode cJ0_charAt_5068e 4 = .ok (.ifCond .eq 12, 3) by decide +kernel) (by decide) rfl ?_
  refine tr_aload_n (pc' := 8) (show decode cJ0_charAt_5068e 7 = .ok (.aload_n 0, 1) by decide +kernel) rfl rfl rfl ?_
  refine tx_getV (pc' := 11) hi fx_9 (show decode cJ0_charAt_5068e 8 = .ok (.getfield 9, 3) by decide +kernel) rfl ?_
  refine tr_iload_n (pc' := 12) (show decode cJ0_charAt_5068e 11 = .ok (.iload_n 1, 1) by decide +kernel) rfl rfl rfl ?_
  refine tp_callS (pc' := 15) (As := [.ref (20 + i), .int j]) (fr1 := fr - 1) okm_J1_charAt_3b067 lk_java_lang_String_495 (show decode cJ0_charAt_5068e 12 = .ok (.invokestatic 495, 3) by decide +kernel) rfl rfl rfl (Nat.le_of_ble_eq_true rfl) (by omega) (ok_J1_charAt_3b067 (by omega) hi h μ hL) (st' := [.int x]) rfl ?_
  exact tr_zret rfl e2 (show decode cJ0_charAt_5068e 15 = .ok (.ireturn, 1) by decide +kernel) hL
section HMT
variable {Λ : hm_M → Prop} {d : hm_D} {fr kc ks : Nat} {r : Option Value} {μ μ' : hm_M} {pc pc' : Nat} {lv : List (Option Value)} {st : List Value}
theorem tr_slen {ix i : Nat} (hlk : Cond.methodLink d.1.cls ix yJ0_length_8abf5 ∈ hm_tb) (hd : decode d.2.1 pc = .ok (.invokevirtual ix, 3)) (hp : pc + 3 = pc') (hi : i < 10) (hcat : (st.map fun v => v.category).sum ≤ 8) (hfr : 2 ≤ fr) (K : hm_T Λ d fr kc ks r μ' pc' lv (.int (hm_sl i) :: st) μ) : hm_T Λ d fr kc ks r μ' pc lv (.ref (4 + i) :: st) μ :=
  tx_callV (As := []) (fr1 := fr - 1) hi rfl okm_J0_length_8abf5 hlk hd hp rfl rfl hcat (by omega) (ok_J0_length_8abf5 (Λ := fun _ => True) (by omega) hi μ trivial) rfl K
theorem tr_schar {ix i : Nat} {j x : Int32} (hlk : Cond.methodLink d.1.cls ix yJ0_charAt_5068e ∈ hm_tb) (hd : decode d.2.1 pc = .ok (.invokevirtual ix, 3)) (hp : pc + 3 = pc') (hi : i < 10) (he : hm_sc i j = some x) (hcat : (st.map fun v => v.category).sum ≤ 8) (hfr : 4 ≤ fr) (K : hm_T Λ d fr kc ks r μ' pc' lv (.int x :: st) μ) : hm_T Λ d fr kc ks r μ' pc lv (.int j :: .ref (4 + i) :: st) μ :=
  tx_callV (As := [.int j]) (fr1 := fr - 1) hi rfl okm_J0_charAt_5068e hlk hd hp rfl rfl hcat (by omega) (ok_J0_charAt_5068e (Λ := fun _ => True) (by omega) hi he μ trivial) rfl K
end HMT
