/-! A copy out of a static row; a constructor of a nest mate. -/
def hm_cX (μ : hm_M) (f : Nat → Int32) (a1 : Nat) (sp dp n : Int32) : hm_M := ((fun b => if b = a1 then va_cpy f (μ.1 a1) sp.toNatClampNeg dp.toNatClampNeg n.toNatClampNeg else μ.1 b), μ.2)
section HMZ
variable {Λ Λ1 : hm_M → Prop} {d d1 : hm_D} {fr fr1 kc kc1 ks ks1 : Nat} {r : Option Value} {μ μ1 μ' : hm_M} {pc pc' : Nat} {lv : List (Option Value)} {st st0 : List Value}
theorem tn_copyT {ix i0 a1 L1 : Nat} {q : String × String × List Int32} {sp dp n : Int32} (hq : hm_sT[i0]? = some q) (h64 : i0 < 64) (hlk : Cond.methodLink d.1.cls ix arraycopyName ∈ hm_tb) (hnat : Cond.native arraycopyName ∈ hm_tb) (hstt : Cond.static arraycopyName ∈ hm_tb) (hini : Cond.initialized "java/lang/System" ∈ hm_tb) (hd : decode d.2.1 pc = .ok (.invokestatic ix, 3)) (hp : pc + 3 = pc') (hcat : (st.map fun v => v.category).sum ≤ 8) (hfr : 1 ≤ fr) (h1 : hm_ar μ a1 13 L1) (c1 : ¬ sp < 0) (c2 : ¬ dp < 0) (c3 : ¬ n < 0) (c4 : sp.toNatClampNeg + n.toNatClampNeg ≤ q.2.2.length) (c5 : dp.toNatClampNeg + n.toNatClampNeg ≤ L1) (K : hm_T Λ d fr kc ks r μ' pc' lv st (hm_cX μ (fun j => q.2.2.getD j 0) a1 sp dp n)) : hm_T Λ d fr kc ks r μ' pc lv (.int n :: .int dp :: .ref a1 :: .int sp :: .ref i0 :: st) μ := by
  subst hp
  generalize hf : (fun j => q.2.2.getD j 0) = f at K
  refine ⟨K.1, fun l g p e s m args below meth c H locs cells slots mc ms ls C w S L q1 q2 => ?_⟩
  show W p l e (hm_rm fr mc ms) s m args below meth c H locs cells slots _ (F0 m pc ls (.int n :: .int dp :: .ref (hm_ad g a1) :: .int sp :: .ref (hm_ad g i0) :: st.map (hm_cv g)))
  rw [hm_ad_lo h64, hm_ad_hi h1.1]
  have nn : ∀ z : Int32, ¬ z < 0 → z.toInt = (z.toNatClampNeg : Int) := by
    intro z hz
    have hz0 : (0 : Int) ≤ z.toInt := by
      have := Int32.not_lt.mp hz
      simpa using Int32.le_iff_toInt_le.mp this
    show z.toInt = ((z.toInt.toNat : Nat) : Int)
    omega
  have hK := C.2.2.2.2.2.2.2.2.1
  have hts := C.2.2.2.2.2.2.2.1
  obtain ⟨scr, hs1, hs2, hs3, hs4, -, hs5, hs7⟩ := (C.2.2.2.2.2.2.2.2.2.1.1 i0 q hq).2
  have hs5 : ∀ j : Nat, j < q.2.2.length → scr.slots[j]? = some (.int (f j)) := fun j hj => by rw [← hf]; exact hs5 j hj
  have hc0 : H[g.2.2.1 i0]? = some scr := by rw [S.2.1 _ (Array.getElem?_eq_some_iff.mp hs1).1 hs7]; exact hs1
  have hc1 : H[hm_ra g a1]? = some (vp_cell (g.2.1 13) (L1, .inl (μ.1 a1))) := by
    have := w.2.2 a1 h1.1 h1.2.1
    rw [hm_en_int h1.2.2.1 (by decide) (by decide) (by decide), h1.2.2.2] at this
    exact this
  intro T hT X
  obtain ⟨hs6, k0, hk0, cm0, hkk0⟩ := hs2
  obtain ⟨-, k1, hk1, cm1, hkk1⟩ := (hK.2 2 (g.2.1 13, _) rfl).1 L1 (fun j => .int (μ.1 a1 j))
  obtain ⟨vm', X', step⟩ := X.arraycopy C.1 (own := d.1.cls) C.2.2.2.2.2.1 (hts _ hlk) (hts _ hnat) (hts _ hstt) (hts _ hini) (src := g.2.2.1 i0) (dst := hm_ra g a1) (cs := scr) (cd := vp_cell (g.2.1 13) (L1, .inl (μ.1 a1))) (srcPos := sp) (destPos := dp) (n := n) (by rw [hT]; exact hc0) (by rw [hT]; exact hc1)
    hs6 (fun _ h => by cases h) hs3 (fun h => by cases h) hk0 hk1 hkk0 hkk1 rfl c1 c2 c3
    (by rw [nn sp c1, nn n c3]; omega)
    (by rw [nn dp c2, nn n c3]; show ¬ _ > ((arrV (g.2.1 13) L1 (fun j => .int (μ.1 a1 j))).slots.size : Int); rw [arrV_size]; omega)
    (fun vm₁ _ i hi => by
      have e : scr.slots.getD (sp.toNatClampNeg + i) .null = .int (f (sp.toNatClampNeg + i)) := by
        rw [Array.getD_eq_getD_getElem?, hs5 _ (by omega)]
        rfl
      refine ⟨?_, ?_⟩
      · rw [e]
        rfl
      · rw [e]
        exact trivial)
    (g := F0 m pc ls (.int n :: .int dp :: .ref (hm_ra g a1) :: .int sp :: .ref (g.2.2.1 i0) :: st.map (hm_cv g))) rfl (L.1.trans C.2.2.1.symm) (rest := st.map (hm_cv g)) rfl (by rw [C.2.1]; exact hd) hfr (by show 2 * 0 + _ + _ ≤ 40 * fr; rw [hm_cats]; have h20 : nativeFrameWords "java/lang/System" "arraycopy" 5 ≤ 20 := (by decide); omega)
  have e1 : copied scr (vp_cell (g.2.1 13) (L1, .inl (μ.1 a1))) sp dp n = vp_cell (g.2.1 13) (L1, .inl (va_cpy f (μ.1 a1) sp.toNatClampNeg dp.toNatClampNeg n.toNatClampNeg)) := va_copiedX (fun z => .int z) scr (g.2.1 13) f (μ.1 a1) hs5 c4
  rw [e1] at X' step
  have hl : hm_ra g a1 < H.size := (Array.getElem?_eq_some_iff.mp hc1).1
  generalize hNc : vp_cell (g.2.1 13) (L1, .inl (va_cpy f (μ.1 a1) sp.toNatClampNeg dp.toNatClampNeg n.toNatClampNeg)) = nc at X' step
  have hheap : ((T.setVm vm').setCell (hm_ra g a1) nc).heap = H.setIfInBounds (hm_ra g a1) nc := by rw [← hT]; rfl
  have oq : ∀ q : Nat, q ≠ hm_ra g a1 → (H.setIfInBounds (hm_ra g a1) nc)[q]? = H[q]? := fun q hq => by simp [Array.getElem?_setIfInBounds, Ne.symm hq]
  have hA : hm_A g (hm_ra g a1) := Nat.le_add_right _ _
  obtain ⟨t, a1', b1⟩ := K.2 l g p e s m args below meth c (H.setIfInBounds (hm_ra g a1) nc) _ cells slots mc ms ls C (w.upd (μ2 := ((fun b => if b = a1 then va_cpy f (μ.1 a1) sp.toNatClampNeg dp.toNatClampNeg n.toNatClampNeg else μ.1 b), μ.2)) h1.1 h1.2.1 rfl (by simp) oq (by
      rw [hm_en_int (show hm_kd (((fun b => if b = a1 then va_cpy f (μ.1 a1) sp.toNatClampNeg dp.toNatClampNeg n.toNatClampNeg else μ.1 b), μ.2) : hm_M) a1 = 13 from h1.2.2.1) (by decide) (by decide) (by decide)]
      show (H.setIfInBounds (hm_ra g a1) nc)[hm_ra g a1]? = some (vp_cell (g.2.1 13) (hm_ln μ a1, .inl (if a1 = a1 then va_cpy f (μ.1 a1) sp.toNatClampNeg dp.toNatClampNeg n.toNatClampNeg else μ.1 a1)))
      rw [if_pos rfl, h1.2.2.2, hNc]
      simp [Array.getElem?_setIfInBounds, hl]) (fun b hb => hm_en_congr rfl (if_neg hb) rfl rfl)) ⟨by simp; exact S.1, fun q g1 g2 => by
      rw [oq q (fun e => g2 (by rw [e]; exact hA))]
      exact S.2.1 q g1 g2, fun q hq => by
      rcases List.mem_append.mp hq with h | h
      · exact S.2.2 q h
      · obtain ⟨z, -, hz⟩ := List.mem_map.mp h
        rw [← hz]
        exact hA⟩ L q1 q2 _ hheap X'
  exact ⟨t, step t a1', b1⟩
theorem tr_callIN {a ix n j : Nat} {As : List Value} {host : String} (ok : hm_okI d1 n) (hlk : hm_nM[j]? = some (d.1.cls, ix, d1.1, host)) (hd : decode d.2.1 pc = .ok (.invokespecial ix, 3)) (hp : pc + 3 = pc') (ha : 64 ≤ a) (hn : As.length = n) (hst : As.reverse ++ .ref a :: st = st0) (hcat : (st.map fun v => v.category).sum ≤ 8) (hfr : fr1 + 1 ≤ fr) (hk : kc1 ≤ kc) (hs : ks1 ≤ ks) (hc : hm_CC Λ1 d1 fr1 kc1 ks1 (.ref a :: As) μ none μ1)
    (K : hm_T Λ d fr (kc - kc1) (ks - ks1) r μ' pc' lv st μ1) : hm_T Λ d fr kc ks r μ' pc lv st0 μ := by
  subst hp; subst hst
  obtain ⟨o1, o2, o4, o5, o6, o7, o8, o9⟩ := ok
  refine hm_call (r1 := none) hk hs (fun l g p e mc ms s m args below meth c H locs cells slots ls C w S L h1 h2 => ?_) K
  have hts := C.2.2.2.2.2.2.2.1
  have hG : GoodIn hm_tb (hm_ws d1) := hm_gws (by rw [o9]; exact o1)
  have hnw := C.2.2.2.2.2.2.2.2.2.1.2.2.2.1 j _ hlk
  refine va_runIN (own := d.1.cls) (host := host) (b := hm_ra g a) (As := As.map (hm_cv g)) (Pc := hm_Pre g (.ref a :: As) μ) (n := n) (nL := d.2.2.1) (cc := d.2.1) (Ts := hm_tb) (bytes := d1.2.1) (maxL := d1.2.2.1) (index := ix) ⟨C.1, C.2.1, C.2.2.1, C.2.2.2.2.2.1, hts⟩ (hc.2 l g) ⟨va_cnB n hts hG (by unfold hm_ws; rw [o9]) rfl rfl hnw (hts _ o4) ⟨o5.1, o5.2, o6⟩ ⟨?_, ?_⟩, o8, hts _ o2⟩ ⟨hm_blind g _ μ, fun U hU hW => ?_⟩ rfl (by rw [List.length_map]; exact hn) L.1 ?_ (lv_room (by rw [hm_cats]; exact hcat)) hd ⟨h1, h2⟩
  · show fr1 + 1 ≤ fr
    exact hfr
  · show 8 + (d1.2.2.1 + 11) + 40 * fr1 ≤ 40 * fr
    omega
  · have := hm_preU C w S (av := .ref a :: As) U hU hW
    rw [List.map_cons] at this
    show hm_Pre g (.ref a :: As) μ (Value.ref (hm_ra g a) :: As.map (hm_cv g)).toArray U
    rw [← hm_ad_hi (g := g) ha]
    exact this
  · show (As.reverse ++ .ref a :: st).map (hm_cv g) = _
    rw [hm_rev, List.map_cons]
    show _ ++ Value.ref (hm_ad g a) :: _ = _
    rw [hm_ad_hi ha]
end HMZ
