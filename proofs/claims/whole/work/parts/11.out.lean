/-! Copies of rows, static rows, texts. -/
def hm_cp (μ : hm_M) (a0 L0 : Nat) (sp : Int32) (a1 L1 : Nat) (dp n : Int32) : Option hm_M :=
  if sp < 0 ∨ dp < 0 ∨ n < 0 ∨ L0 < sp.toNatClampNeg + n.toNatClampNeg ∨ L1 < dp.toNatClampNeg + n.toNatClampNeg then none
  else some ((fun b => if b = a1 then va_cpy (μ.1 a0) (μ.1 a1) sp.toNatClampNeg dp.toNatClampNeg n.toNatClampNeg else μ.1 b), μ.2)
theorem hm_cp_s {μ μ1 : hm_M} {a0 L0 a1 L1 : Nat} {sp dp n : Int32} (e : hm_cp μ a0 L0 sp a1 L1 dp n = some μ1) : μ1.2.2 = μ.2.2 := by
  rcases hm_is e with ⟨-, e⟩ | ⟨hc, e⟩
  · cases e
  · cases e; rfl
/-- a static row's number -/
def hm_ldX (i0 : Nat) (j : Int32) : Option Int32 := if j < 0 ∨ (hm_sT.getD i0 ("", "", [])).2.2.length ≤ j.toNatClampNeg then none else some ((hm_sT.getD i0 ("", "", [])).2.2.getD j.toNatClampNeg 0)
def hm_sl (t : Nat) : Int32 := Int32.ofNat (hm_sL.getD t 0)
def hm_sc (t : Nat) (j : Int32) : Option Int32 := if j < 0 ∨ hm_sL.getD t 0 ≤ j.toNatClampNeg then none else some ((hm_sB.getD t []).getD j.toNatClampNeg 0)
def hm_arν (ν : hm_N) (a k L : Nat) : Prop := 64 ≤ a ∧ a < ν.2.1 ∧ ν.2.2.1 a = k ∧ ν.2.2.2 a = L
theorem la_x {ν : hm_N} {μ : hm_M} {a k L : Nat} (hL : hm_LL ν μ) (h : hm_arν ν a k L) : hm_ar μ a k L := by
  obtain ⟨rfl, -⟩ := hL
  exact h
theorem la_n {ν : hm_N} {μ : hm_M} {a k L : Nat} (hL : hm_LL ν μ) (h : hm_ar μ a k L) : hm_arν ν a k L := by
  obtain ⟨rfl, -⟩ := hL
  exact h
theorem la_m {ν : hm_N} {μ : hm_M} {a k L : Nat} (hL : hm_LL ν μ) (h : hm_arν ν a k L) : hm_ar μ a k L := la_x hL h
theorem la_img {ν : hm_N} {μ : hm_M} (hL : hm_LL ν μ) {i : Int32} {x : Option Nat} (e : hm_ldR μ 75 2 i = some x) : x = some (x.getD 0) ∧ hm_V (x.getD 0) := by
  rcases hm_is e with ⟨-, e⟩ | ⟨hc, e⟩
  · cases e
  · cases e
    have hlt : i.toNatClampNeg < 2 := Nat.not_le.mp fun q => hc (Or.inr q)
    generalize i.toNatClampNeg = k at hlt ⊢
    rcases (show k = 0 ∨ k = 1 by omega) with rfl | rfl
    · rw [hL.2.2.2.1 22 _ rfl]
      exact ⟨rfl, by unfold hm_V; decide⟩
    · rw [hL.2.2.2.1 23 _ rfl]
      exact ⟨rfl, by unfold hm_V; decide⟩
theorem la_law {ν : hm_N} {μ : hm_M} (hL : hm_LL ν μ) {v : Nat} (hv : hm_V v) {i : Int32} {x : Option Nat} (e : hm_ldR μ (v + 6) 6 i = some x) : ∀ p, x = some p → hm_pg ν p := by
  intro p hp
  rcases hm_is e with ⟨-, e⟩ | ⟨hc, e⟩
  · cases e
  · cases e
    exact hL.2.2.2.2.2 v _ p hv (Nat.not_le.mp fun q => hc (Or.inr q)) hp
section HMX
variable {Λ : hm_M → Prop} {d : hm_D} {fr kc ks : Nat} {r : Option Value} {μ μ1 μ' : hm_M} {pc pc' : Nat} {lv : List (Option Value)} {st st0 : List Value}
theorem tp_cp {ix a0 L0 a1 L1 : Nat} {sp dp n : Int32} (hlk : Cond.methodLink d.1.cls ix arraycopyName ∈ hm_tb) (hnat : Cond.native arraycopyName ∈ hm_tb) (hstt : Cond.static arraycopyName ∈ hm_tb) (hini : Cond.initialized "java/lang/System" ∈ hm_tb) (hd : decode d.2.1 pc = .ok (.invokestatic ix, 3)) (hp : pc + 3 = pc') (hcat : (st.map fun v => v.category).sum ≤ 8) (hfr : 1 ≤ fr) (h0 : hm_ar μ a0 13 L0) (h1 : hm_ar μ a1 13 L1) (e : hm_cp μ a0 L0 sp a1 L1 dp n = some μ1) (K : hm_T Λ d fr kc ks r μ' pc' lv st μ1) : hm_T Λ d fr kc ks r μ' pc lv (.int n :: .int dp :: .ref a1 :: .int sp :: .ref a0 :: st) μ := by
  subst hp
  rcases hm_is e with ⟨-, e⟩ | ⟨hc, e⟩
  · cases e
  cases e
  have c1 : ¬ sp < 0 := fun z => hc (Or.inl z)
  have c2 : ¬ dp < 0 := fun z => hc (Or.inr (Or.inl z))
  have c3 : ¬ n < 0 := fun z => hc (Or.inr (Or.inr (Or.inl z)))
  have c4 : sp.toNatClampNeg + n.toNatClampNeg ≤ L0 := Nat.not_lt.mp fun z => hc (Or.inr (Or.inr (Or.inr (Or.inl z))))
  have c5 : dp.toNatClampNeg + n.toNatClampNeg ≤ L1 := Nat.not_lt.mp fun z => hc (Or.inr (Or.inr (Or.inr (Or.inr z))))
  refine ⟨K.1, fun l g p e s m args below meth c H locs cells slots mc ms ls C w S L q1 q2 => ?_⟩
  show W p l e (hm_rm fr mc ms) s m args below meth c H locs cells slots _ (F0 m pc ls (.int n :: .int dp :: .ref (hm_ad g a1) :: .int sp :: .ref (hm_ad g a0) :: st.map (hm_cv g)))
  rw [hm_ad_hi h0.1, hm_ad_hi h1.1]
  have nn : ∀ z : Int32, ¬ z < 0 → z.toInt = (z.toNatClampNeg : Int) := by
    intro z hz
    have hz0 : (0 : Int) ≤ z.toInt := by
      have := Int32.not_lt.mp hz
      simpa using Int32.le_iff_toInt_le.mp this
    show z.toInt = ((z.toInt.toNat : Nat) : Int)
    omega
  have hK := C.2.2.2.2.2.2.2.2.1
  have hts := C.2.2.2.2.2.2.2.1
  have hc0 : H[hm_ra g a0]? = some (vp_cell (g.2.1 13) (L0, .inl (μ.1 a0))) := by
    have := w.2.2 a0 h0.1 h0.2.1
    rw [hm_en_int h0.2.2.1 (by decide) (by decide) (by decide), h0.2.2.2] at this
    exact this
  have hc1 : H[hm_ra g a1]? = some (vp_cell (g.2.1 13) (L1, .inl (μ.1 a1))) := by
    have := w.2.2 a1 h1.1 h1.2.1
    rw [hm_en_int h1.2.2.1 (by decide) (by decide) (by decide), h1.2.2.2] at this
    exact this
  intro T hT X
  obtain ⟨-, k0, hk0, cm0, hkk0⟩ := (hK.2 2 (g.2.1 13, _) rfl).1 L0 (fun j => .int (μ.1 a0 j))
  obtain ⟨-, k1, hk1, cm1, hkk1⟩ := (hK.2 2 (g.2.1 13, _) rfl).1 L1 (fun j => .int (μ.1 a1 j))
  obtain ⟨vm', X', step⟩ := X.arraycopy C.1 (own := d.1.cls) C.2.2.2.2.2.1 (hts _ hlk) (hts _ hnat) (hts _ hstt) (hts _ hini) (src := hm_ra g a0) (dst := hm_ra g a1) (cs := vp_cell (g.2.1 13) (L0, .inl (μ.1 a0))) (cd := vp_cell (g.2.1 13) (L1, .inl (μ.1 a1))) (srcPos := sp) (destPos := dp) (n := n) (by rw [hT]; exact hc0) (by rw [hT]; exact hc1)
    (fun _ h => by cases h) (fun _ h => by cases h) (fun h => by cases h) (fun h => by cases h) hk0 hk1 hkk0 hkk1 rfl c1 c2 c3
    (by rw [nn sp c1, nn n c3]; show ¬ _ > ((arrV (g.2.1 13) L0 (fun j => .int (μ.1 a0 j))).slots.size : Int); rw [arrV_size]; omega)
    (by rw [nn dp c2, nn n c3]; show ¬ _ > ((arrV (g.2.1 13) L1 (fun j => .int (μ.1 a1 j))).slots.size : Int); rw [arrV_size]; omega)
    (fun vm₁ _ i hi => by
      have e : (vp_cell (g.2.1 13) (L0, .inl (μ.1 a0))).slots.getD (sp.toNatClampNeg + i) .null = .int (μ.1 a0 (sp.toNatClampNeg + i)) := by
        show (arrV (g.2.1 13) L0 (fun j => .int (μ.1 a0 j))).slots.getD _ _ = _
        rw [Array.getD_eq_getD_getElem?, arrV_read _ _ (by omega)]
        rfl
      refine ⟨?_, ?_⟩
      · rw [e]
        rfl
      · rw [e]
        exact trivial)
    (g := F0 m pc ls (.int n :: .int dp :: .ref (hm_ra g a1) :: .int sp :: .ref (hm_ra g a0) :: st.map (hm_cv g))) rfl (L.1.trans C.2.2.1.symm) (rest := st.map (hm_cv g)) rfl (by rw [C.2.1]; exact hd) hfr (by show 2 * 0 + _ + _ ≤ 40 * fr; rw [hm_cats]; have h20 : nativeFrameWords "java/lang/System" "arraycopy" 5 ≤ 20 := (by decide); omega)
  have e1 : copied (vp_cell (g.2.1 13) (L0, .inl (μ.1 a0))) (vp_cell (g.2.1 13) (L1, .inl (μ.1 a1))) sp dp n = vp_cell (g.2.1 13) (L1, .inl (va_cpy (μ.1 a0) (μ.1 a1) sp.toNatClampNeg dp.toNatClampNeg n.toNatClampNeg)) := va_copied (fun z => .int z) (g.2.1 13) (g.2.1 13) (μ.1 a0) (μ.1 a1) c4
  rw [e1] at X' step
  have hl : hm_ra g a1 < H.size := (Array.getElem?_eq_some_iff.mp hc1).1
  generalize hNc : vp_cell (g.2.1 13) (L1, .inl (va_cpy (μ.1 a0) (μ.1 a1) sp.toNatClampNeg dp.toNatClampNeg n.toNatClampNeg)) = nc at X' step
  have hheap : ((T.setVm vm').setCell (hm_ra g a1) nc).heap = H.setIfInBounds (hm_ra g a1) nc := by rw [← hT]; rfl
  have oq : ∀ q : Nat, q ≠ hm_ra g a1 → (H.setIfInBounds (hm_ra g a1) nc)[q]? = H[q]? := fun q hq => by simp [Array.getElem?_setIfInBounds, Ne.symm hq]
  have hA : hm_A g (hm_ra g a1) := Nat.le_add_right _ _
  obtain ⟨t, a1', b1⟩ := K.2 l g p e s m args below meth c (H.setIfInBounds (hm_ra g a1) nc) _ cells slots mc ms ls C (w.upd (μ2 := ((fun b => if b = a1 then va_cpy (μ.1 a0) (μ.1 a1) sp.toNatClampNeg dp.toNatClampNeg n.toNatClampNeg else μ.1 b), μ.2)) h1.1 h1.2.1 rfl (by simp) oq (by
      rw [hm_en_int (show hm_kd (((fun b => if b = a1 then va_cpy (μ.1 a0) (μ.1 a1) sp.toNatClampNeg dp.toNatClampNeg n.toNatClampNeg else μ.1 b), μ.2) : hm_M) a1 = 13 from h1.2.2.1) (by decide) (by decide) (by decide)]
      show (H.setIfInBounds (hm_ra g a1) nc)[hm_ra g a1]? = some (vp_cell (g.2.1 13) (hm_ln μ a1, .inl (if a1 = a1 then va_cpy (μ.1 a0) (μ.1 a1) sp.toNatClampNeg dp.toNatClampNeg n.toNatClampNeg else μ.1 a1)))
      rw [if_pos rfl, h1.2.2.2, hNc]
      simp [Array.getElem?_setIfInBounds, hl]) (fun b hb => hm_en_congr rfl (if_neg hb) rfl rfl)) ⟨by simp; exact S.1, fun q g1 g2 => by
      rw [oq q (fun e => g2 (by rw [e]; exact hA))]
      exact S.2.1 q g1 g2, fun q hq => by
      rcases List.mem_append.mp hq with h | h
      · exact S.2.2 q h
      · obtain ⟨z, -, hz⟩ := List.mem_map.mp h
        rw [← hz]
        exact hA⟩ L q1 q2 _ hheap X'
  exact ⟨t, step t a1', b1⟩
theorem hm_ad_lo {g : hm_G} {a : Nat} (h : a < 64) : hm_ad g a = g.2.2.1 a := if_pos h
theorem tr_gets {i ix : Nat} {q : String × String × List Int32} (hq : hm_sT[i]? = some q) (h64 : i < 64) (hw : Cond.fieldLink d.1.cls ix q.1 q.2.1 "[I" ∈ hm_tb) (hd : decode d.2.1 pc = .ok (.getstatic ix, 3)) (hp : pc + 3 = pc') (K : hm_T Λ d fr kc ks r μ' pc' lv (.ref i :: st) μ) : hm_T Λ d fr kc ks r μ' pc lv st μ := by
  subst hp
  refine hm_go (fun l g p e R s m args below meth c H locs cells slots Q ls C w0 S L w => ?_) K
  rw [List.map_cons] at w
  have w : W p l e R s m args below meth c H locs cells slots Q (F0 m (pc + 3) ls (.ref (hm_ad g i) :: st.map (hm_cv g))) := w
  rw [hm_ad_lo h64] at w
  exact va_gets C.1 C.2.1 (C.2.2.2.2.2.2.2.2.2.1.1 i q hq).1 S C.2.2.2.2.2.1 (C.2.2.2.2.2.2.2.1 _ hw) (fun _ h => h) hd w
theorem tr_getsN {i j ix : Nat} {q : String × String × List Int32} {host : String} (hq : hm_sT[i]? = some q) (h64 : i < 64) (hw : hm_nF[j]? = some (d.1.cls, ix, q.1, q.2.1, "[I", host)) (hd : decode d.2.1 pc = .ok (.getstatic ix, 3)) (hp : pc + 3 = pc') (K : hm_T Λ d fr kc ks r μ' pc' lv (.ref i :: st) μ) : hm_T Λ d fr kc ks r μ' pc lv st μ := by
  subst hp
  refine hm_go (fun l g p e R s m args below meth c H locs cells slots Q ls C w0 S L w => ?_) K
  rw [List.map_cons] at w
  have w : W p l e R s m args below meth c H locs cells slots Q (F0 m (pc + 3) ls (.ref (hm_ad g i) :: st.map (hm_cv g))) := w
  rw [hm_ad_lo h64] at w
  exact va_getsN C.1 C.2.1 (C.2.2.2.2.2.2.2.2.2.1.1 i q hq).1 S C.2.2.2.2.2.1 (va_Nw.use rfl (C.2.2.2.2.2.2.2.2.2.1.2.2.1 j _ hw)) (fun _ h => h) hd w
theorem tr_ldX {i0 : Nat} {j x : Int32} (h64 : i0 < 4) (hd : decode d.2.1 pc = .ok (.iaload, 1)) (hp : pc + 1 = pc') (he : hm_ldX i0 j = some x) (K : hm_T Λ d fr kc ks r μ' pc' lv (.int x :: st) μ) : hm_T Λ d fr kc ks r μ' pc lv (.int j :: .ref i0 :: st) μ := by
  subst hp
  rcases hm_is he with ⟨-, he⟩ | ⟨hc, he⟩
  · cases he
  refine hm_go (fun l g p e R s m args below meth c H locs cells slots Q ls C w0 S L w => ?_) K
  show W p l e R s m args below meth c H locs cells slots Q (F0 m pc ls (.int j :: .ref (hm_ad g i0) :: st.map (hm_cv g)))
  rw [hm_ad_lo (by omega)]
  have hq : hm_sT[i0]? = some (hm_sT.getD i0 ("", "", [])) := by
    rcases (show i0 = 0 ∨ i0 = 1 ∨ i0 = 2 ∨ i0 = 3 by omega) with rfl | rfl | rfl | rfl <;> rfl
  exact va_ti C.1 C.2.1 (C.2.2.2.2.2.2.2.2.2.1.1 i0 _ hq).2 S hc (congrArg Value.int (Option.some.inj he)) hd w
theorem tr_ldcS {i ix : Nat} {tx : String} (hs : hm_sS[i]? = some (ix, tx)) (hown : d.1.cls = "HandRing$Reader") (hd : decode d.2.1 pc = .ok (.ldc ix, 2)) (hp : pc + 2 = pc') (K : hm_T Λ d fr kc ks r μ' pc' lv (.ref (4 + i) :: st) μ) : hm_T Λ d fr kc ks r μ' pc lv st μ := by
  subst hp
  have hl : i < 10 := (List.getElem?_eq_some_iff.mp hs).1
  refine hm_go (fun l g p e R s m args below meth c H locs cells slots Q ls C w0 S L w => ?_) K
  rw [List.map_cons] at w
  have w : W p l e R s m args below meth c H locs cells slots Q (F0 m (pc + 2) ls (.ref (hm_ad g (4 + i)) :: st.map (hm_cv g))) := w
  rw [hm_ad_lo (by omega)] at w
  have ho := C.2.2.2.2.2.1
  rw [hown] at ho
  exact va_ldcS C.1 C.2.1 ho (C.2.2.2.2.2.2.2.2.2.1.2.1.2.1 i _ hs) hd w
end HMX
def hm_sdR (μ : hm_M) (a L : Nat) (i : Int32) (x : Option Nat) : Option hm_M := if i < 0 ∨ L ≤ i.toNatClampNeg then none else some (hm_wR μ a i.toNatClampNeg x)
def hm_pR (μ : hm_M) (a k : Nat) (x : Option Nat) : Option hm_M := some (hm_wR μ a k x)
section HMY
variable {Λ : hm_M → Prop} {d : hm_D} {fr kc ks : Nat} {r : Option Value} {μ μ1 μ' : hm_M} {pc pc' : Nat} {lv : List (Option Value)} {st : List Value}
theorem tp_sdR {a L : Nat} {i : Int32} {x : Option Nat} (hx : ∀ p, x = some p → hm_at μ p 5) (hd : decode d.2.1 pc = .ok (.aastore, 1)) (hp : pc + 1 = pc') (ha : hm_ar μ a 16 L) (e : hm_sdR μ a L i x = some μ1) (K : hm_T Λ d fr kc ks r μ' pc' lv st μ1) : hm_T Λ d fr kc ks r μ' pc lv (va_rf x :: .int i :: .ref a :: st) μ := by
  rcases hm_is e with ⟨-, e⟩ | ⟨hc, e⟩
  · cases e
  cases e
  cases x with
  | none => exact tr_aastN (t0 := 5) (E := "HandRing$Program") (by decide) (fun _ => rfl) hd hp ha hc K
  | some p => exact tr_aast (t0 := 5) (ci := 5) (q0 := (RX5, TX5, 6)) (by decide) (fun _ => rfl) rfl (by decide) hd hp ha (hx p rfl) hc K
theorem tp_pR {a ix ci k x : Nat} (hF : hm_Fl d.1.cls ix ci k true (.array .char) false) (hd : decode d.2.1 pc = .ok (.putfield ix, 3)) (hp : pc + 3 = pc') (ha : hm_at μ a ci) (e : hm_pR μ a k (some x) = some μ1) (K : hm_T Λ d fr kc ks r μ' pc' lv st μ1) : hm_T Λ d fr kc ks r μ' pc lv (.ref x :: .ref a :: st) μ := by
  cases e
  exact tr_putR (x := some x) hF hd hp ha (fun y => by cases y <;> exact ⟨rfl, rfl⟩) K
end HMY
theorem hm_R0_ne : ∀ q ∈ hm_R0, (q.1 ≠ 71 ∧ q.1 ≠ 83 ∧ q.1 ≠ 122 ∧ q.1 ≠ 165 ∧ q.1 ≠ 175) ∧ ¬ (q.1 = 150 ∧ q.2.1 = 1) := by decide +kernel
theorem la_tx {ν : hm_N} {μ : hm_M} (hL : hm_LL ν μ) (hT : ν.1 = some 156) : va_rf (μ.2.2.1 150 1) = .ref 156 := by
  rw [show μ.2.2.1 150 1 = ν.1 from congrArg Prod.fst hL.1, hT]
  rfl
theorem la_vk {ν : hm_N} {μ : hm_M} (hL : hm_LL ν μ) {v : Nat} (hv : hm_V v) : ν.2.2.1 (v + 6) = 16 := by
  rcases hv with rfl | rfl | rfl | rfl | rfl
  · exact (hL.2.2.1 7 _ rfl).1
  · exact (hL.2.2.1 19 _ rfl).1
  · exact (hL.2.2.1 58 _ rfl).1
  · exact (hL.2.2.1 101 _ rfl).1
  · exact (hL.2.2.1 111 _ rfl).1
theorem la_wlaw {ν : hm_N} {μ μ1 : hm_M} (hL : hm_LL ν μ) {v : Nat} (hv : hm_V v) {i : Int32} {x : Option Nat} (hx : ∀ p, x = some p → hm_pg ν p) (e : hm_sdR μ (v + 6) 6 i x = some μ1) : hm_LL ν μ1 := by
  rcases hm_is e with ⟨-, e⟩ | ⟨hc, e⟩
  · cases e
  cases e
  have hk := la_vk hL hv
  obtain ⟨h1, h2, h3, h4, h5, h6⟩ := hL
  have ne : ∀ b, b ≠ v + 6 → hm_u μ.2.2.1 (v + 6) i.toNatClampNeg x b = μ.2.2.1 b := fun b hb => hm_u_ne _ _ _ _ hb
  refine ⟨?_, h2, h3, fun j q hq => ?_, fun p hp => ?_, fun v' j p hv' hj hp => ?_⟩
  · rw [← h1]
    show (hm_u μ.2.2.1 (v + 6) i.toNatClampNeg x 150 1, μ.2.2.2) = _
    rw [ne 150 (by rcases hv with rfl | rfl | rfl | rfl | rfl <;> decide)]
  · show hm_u μ.2.2.1 (v + 6) i.toNatClampNeg x q.1 q.2.1 = _
    have := (hm_R0_ne q (List.mem_of_getElem? hq)).1
    rw [ne q.1 (by rcases hv with rfl | rfl | rfl | rfl | rfl <;> omega)]
    exact h4 j q hq
  · have hpk := hp.2.2.1
    have : p ≠ v + 6 := fun z => by rw [z, hk] at hpk; cases hpk
    show hm_u μ.2.2.1 (v + 6) i.toNatClampNeg x p 0 = _ ∧ hm_u μ.2.2.1 (v + 6) i.toNatClampNeg x p 1 = _ ∧ hm_u μ.2.2.1 (v + 6) i.toNatClampNeg x p 2 = _
    rw [ne p this]
    exact h5 p hp
  · have hp : hm_u μ.2.2.1 (v + 6) i.toNatClampNeg x (v' + 6) j = some p := hp
    unfold hm_u at hp
    split at hp
    · exact hx p hp
    · exact h6 v' j p hv' hj hp
theorem la_settx {ν : hm_N} {τ : Option Nat} {μ μ1 : hm_M} (hL : hm_LL (τ, ν.2) μ) (hT : ν.1 = some 156) (e : hm_pR μ 150 1 (some 156) = some μ1) : hm_LL ν μ1 := by
  cases e
  have hk : ν.2.2.1 150 = 6 := (hL.2.2.1 86 _ rfl).1
  obtain ⟨h1, h2, h3, h4, h5, h6⟩ := hL
  refine ⟨?_, h2, h3, fun j q hq => ?_, fun p hp => ?_, fun v' j p hv' hj hp => ?_⟩
  · have : μ.2.2.2 = ν.2 := congrArg Prod.snd h1
    show (hm_u μ.2.2.1 150 1 (some 156) 150 1, μ.2.2.2) = ν
    rw [this, hm_u_at]
    show (some 156, ν.2) = ν
    rw [← hT]
  · show hm_u μ.2.2.1 150 1 (some 156) q.1 q.2.1 = _
    have := (hm_R0_ne q (List.mem_of_getElem? hq)).2
    unfold hm_u
    rw [if_neg this]
    exact h4 j q hq
  · have hpk := hp.2.2.1
    have : p ≠ 150 := fun z => by rw [z, hk] at hpk; cases hpk
    show hm_u μ.2.2.1 150 1 (some 156) p 0 = _ ∧ hm_u μ.2.2.1 150 1 (some 156) p 1 = _ ∧ hm_u μ.2.2.1 150 1 (some 156) p 2 = _
    rw [hm_u_ne _ _ _ _ this]
    exact h5 p hp
  · have hp : hm_u μ.2.2.1 150 1 (some 156) (v' + 6) j = some p := hp
    rw [hm_u_ne _ _ _ _ (by rcases hv' with rfl | rfl | rfl | rfl | rfl <;> decide)] at hp
    exact h6 v' j p hv' hj hp
