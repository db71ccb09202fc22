/-! Calls. -/
theorem hm_E.same {g : hm_G} {u U : State} (hh : U.heap = u.heap) (hv : U.vm = u.vm) (h : hm_E g u) : hm_E g U := by
  obtain ⟨h1, ⟨h2, h3, h4, h5⟩, h6, h7, h8, h9, h10⟩ := h
  have ha : u.vm.Alike U.vm := by rw [hv]; exact Vm.Alike.refl _
  refine ⟨fun i q hi => ?_, ⟨?_, fun i q hi => (h3 i q hi).same hv, ?_, ?_⟩, fun i q hi => (h6 i q hi).same rfl hv.symm, fun i q hi => (h7 i q hi).same rfl hv.symm, h8.moved ha, h9.moved ha, (Cond.arrayOver_setVmC (args := #[]) ha _).trans h10⟩
  · rw [hh]; exact ⟨(h1 i q hi).1.moved ha, (h1 i q hi).2.moved ha⟩
  · rw [hh]; exact h2.moved ha
  · rw [hh]; exact h4.moved ha
  · rw [hh]; exact h5.imp (fun h => h.moved ha) (fun h => h.moved ha)
theorem hm_blind (g : hm_G) (av : List Value) (μ : hm_M) : FrameBlind (hm_Pre g av μ) := by
  intro a U f mk h
  obtain ⟨h1, h2, h3, h4⟩ := h
  exact ⟨h1, h2, va_K.moved (u := U) (U := U.calling f mk a) (Vm.Alike.refl U.vm) h3, h4.same rfl rfl⟩
theorem hm_preU {g : hm_G} {p : Program} {s : State} {m : MethodId} {args : Array Value} {meth : Method} {c : Code} {d : hm_D} {μ : hm_M} {H : Heap} {locs : List Loc} (C : hm_Cx g p s m args meth c d) (w : hm_W g μ H) (S : va_S (hm_A g) s.heap H locs) {av : List Value} (U : State) (hU : U.heap = H) (hW : s.WarmedH U.vm) : hm_Pre g av μ ((av.map (hm_cv g)).toArray) U :=
  ⟨rfl, by rw [hU]; exact w, va_K.moved hW.alike C.2.2.2.2.2.2.2.2.1, C.2.2.2.2.2.2.2.2.2.1.to S hU hW⟩
def hm_okV (d : hm_D) (n : Nat) : Prop := Cond.code d.1 d.2.1 d.2.2.1 d.2.2.2 ∈ hm_tb ∧ Cond.instanceMethod d.1 ∈ hm_tb ∧ Cond.selects d.1.cls d.1 d.1 ∈ hm_tb ∧ Cond.initialized d.1.cls ∈ hm_tb ∧ (d.1.cls ≠ "java/lang/invoke/MethodHandle" ∧ d.1.cls ≠ "java/lang/invoke/VarHandle") ∧ (parseMethodDescriptor d.1.desc).map (fun q => q.parameters.length) = some n ∧ d.2.2.1 ≤ 21
def hm_okS (d : hm_D) (n : Nat) : Prop := Cond.code d.1 d.2.1 d.2.2.1 d.2.2.2 ∈ hm_tb ∧ Cond.static d.1 ∈ hm_tb ∧ Cond.initialized d.1.cls ∈ hm_tb ∧ (d.1.cls ≠ "java/lang/invoke/MethodHandle" ∧ d.1.cls ≠ "java/lang/invoke/VarHandle") ∧ (parseMethodDescriptor d.1.desc).map (fun q => q.parameters.length) = some n ∧ d.2.2.1 ≤ 21
def hm_okI (d : hm_D) (n : Nat) : Prop := Cond.code d.1 d.2.1 d.2.2.1 none ∈ hm_tb ∧ Cond.instanceMethod d.1 ∈ hm_tb ∧ Cond.initialized d.1.cls ∈ hm_tb ∧ (d.1.cls ≠ "java/lang/invoke/MethodHandle" ∧ d.1.cls ≠ "java/lang/invoke/VarHandle") ∧ (parseMethodDescriptor d.1.desc).map (fun q => q.parameters.length) = some n ∧ d.2.2.1 ≤ 21 ∧ d.1.name = "<init>" ∧ d.2.2.2 = none
theorem hm_gws {d : hm_D} (h : Cond.code d.1 d.2.1 d.2.2.1 d.2.2.2 ∈ hm_tb) : GoodIn hm_tb (hm_ws d) := fun w hw => (List.mem_cons.mp hw).elim (fun e => hm_good w (by rw [e]; exact h)) (fun z => hm_good w z)
section HMC
variable {Λ Λ1 : hm_M → Prop} {d d1 : hm_D} {fr fr1 kc kc1 ks ks1 : Nat} {r r1 : Option Value} {μ μ1 μ' : hm_M} {pc pc' : Nat} {lv : List (Option Value)} {st st0 : List Value}
theorem hm_call (hk : kc1 ≤ kc) (hs : ks1 ≤ ks)
    (h : ∀ (l : Launch) (g : hm_G) (p : Program) (e : Env) (mc ms : Nat) (s : State) (m : MethodId) (args : Array Value) (below : List Frame) (meth : Method) (c : Code) (H : Heap) (locs : List Loc) (cells slots : Nat) (ls : Array Slot), hm_Cx g p s m args meth c d → hm_W g μ H → va_S (hm_A g) s.heap H locs → lv_has ls d.2.2.1 (hm_lv g (hm_la lv)) → cells + kc1 ≤ mc → slots + ks1 ≤ ms → va_Run p l e (hm_rm fr mc ms) s m args below meth c H locs cells slots kc1 ks1 (F0 m pc ls (st0.map (hm_cv g))) (st.map (hm_cv g)) (hm_Qx g r1 μ1 #[]) (hm_A g))
    (K : hm_T Λ d fr (kc - kc1) (ks - ks1) r μ' (pc + 3) lv (r1.toList ++ st) μ1) : hm_T Λ d fr kc ks r μ' pc lv st0 μ := by
  refine ⟨K.1, fun l g p e s m args below meth c H locs cells slots mc ms ls C w S L h1 h2 => ?_⟩
  intro T hT X
  obtain ⟨v, st₀, t, T', L', g0, X', hL, e1, e2, ⟨hv, hw, hf⟩, step⟩ := h l g p e mc ms s m args below meth c H locs cells slots ls C w S L (by omega) (by omega) T hT X
  have hv2 : v = r1.map (hm_cv g) := by cases hv; rfl
  have hz : H.size ≤ T'.heap.size := by rw [e1, ← g0]; exact hf.1
  have hk2 : ∀ q : Nat, q < H.size → ¬ hm_A g q → T'.heap[q]? = H[q]? := fun q q1 q2 => by rw [e1, ← g0]; exact hf.2 q (by rw [g0]; exact q1) q2
  have S' : va_S (hm_A g) s.heap T'.heap (locs ++ L') := ⟨Nat.le_trans S.1 hz, fun q q1 q2 => by rw [hk2 q (Nat.lt_of_lt_of_le q1 S.1) q2]; exact S.2.1 q q1 q2, fun q hq => by
    rcases List.mem_append.mp hq with z | z
    · exact S.2.2 q z
    · exact hL q z⟩
  have kk := K.2 l g p e s m args below meth c T'.heap (locs ++ L') (cells + kc1) (slots + ks1) mc ms ls C (by rw [e1]; exact hw) S' L (by omega) (by omega)
  obtain ⟨t2, a1, b1⟩ := kk T' rfl X'
  refine ⟨t2, step t2 ?_, b1⟩
  have e3 : (r1.toList ++ st).map (hm_cv g) = v.toList ++ st.map (hm_cv g) := by rw [hv2]; cases r1 <;> rfl
  rw [← e3]
  exact a1
theorem hm_rev (g : hm_G) (As st : List Value) : (As.reverse ++ st).map (hm_cv g) = (As.map (hm_cv g)).reverse ++ st.map (hm_cv g) := by simp
theorem hm_cats (g : hm_G) (st : List Value) : ((st.map (hm_cv g)).map fun v => v.category).sum = (st.map fun v => v.category).sum := by
  rw [List.map_map]
  congr 1
  apply List.map_congr_left
  intro v _
  exact hm_cat g v
theorem tr_callV {a ix ci n : Nat} {As : List Value} {q0 : vw_C} (ok : hm_okV d1 n) (hlk : Cond.methodLink d.1.cls ix d1.1 ∈ hm_tb) (hd : decode d.2.1 pc = .ok (.invokevirtual ix, 3)) (hp : pc + 3 = pc') (hq0 : vwCl[ci]? = some q0) (hq1 : q0.1 = d1.1.cls) (hci : ci < 11) (ha : hm_at μ a ci) (hn : As.length = n) (hst : As.reverse ++ .ref a :: st = st0) (hcat : (st.map fun v => v.category).sum ≤ 8) (hfr : fr1 + 1 ≤ fr) (hk : kc1 ≤ kc) (hs : ks1 ≤ ks) (hc : hm_CC Λ1 d1 fr1 kc1 ks1 (.ref a :: As) μ r1 μ1)
    (K : hm_T Λ d fr (kc - kc1) (ks - ks1) r μ' pc' lv (r1.toList ++ st) μ1) : hm_T Λ d fr kc ks r μ' pc lv st0 μ := by
  subst hp; subst hst
  obtain ⟨o1, o2, o3, o4, o5, o6, o7⟩ := ok
  refine hm_call hk hs (fun l g p e mc ms s m args below meth c H locs cells slots ls C w S L h1 h2 => ?_) K
  have he := w.2.2 a ha.1 ha.2.1
  rw [hm_en_obj ha.2.2 hci] at he
  obtain ⟨r', hr', cellV, g1, g2, g3, -⟩ := he
  have hcls := (C.2.2.2.2.2.2.2.2.1.1 ci q0 hq0).2
  have hts := C.2.2.2.2.2.2.2.1
  have hG : GoodIn hm_tb (wsV d.1.cls ix d1.1.cls d1.1 (hm_ws d1)) := by
    intro w hw
    rcases List.mem_append.mp hw with z | z
    · simp only [List.mem_cons, List.not_mem_nil, or_false] at z
      rcases z with rfl | rfl | rfl | rfl
      · exact hm_good _ hlk
      · exact hm_good _ o2
      · exact hm_good _ o3
      · exact hm_good _ o4
    · exact hm_gws o1 w z
  refine va_runV (own := d.1.cls) (C := d1.1.cls) (b := hm_ra g a) (As := As.map (hm_cv g)) (Pc := hm_Pre g (.ref a :: As) μ) (n := n) (nL := d.2.2.1) (cc := d.2.1) (Ts := hm_tb) (bytes := d1.2.1) (maxL := d1.2.2.1) (ret := d1.2.2.2) (index := ix) ⟨C.1, C.2.1, C.2.2.1, C.2.2.2.2.2.1, hts⟩ (hc.2 l g) (cwV n hts hG rfl rfl rfl ⟨rfl, o5.1, o5.2, o6⟩ ⟨?_, ?_⟩) ⟨hm_blind g _ μ, ⟨cellV, g1, by rw [g3]; rfl, by rw [g2, ← hq1]; exact hcls.1⟩, fun U hU hW => ?_⟩ rfl (by rw [List.length_map]; exact hn) L.1 ?_ (lv_room (by rw [hm_cats]; exact hcat)) hd ⟨h1, h2⟩
  · show fr1 + 1 ≤ fr
    exact hfr
  · show 8 + (d1.2.2.1 + 11) + 40 * fr1 ≤ 40 * fr
    omega
  · have := hm_preU C w S (av := .ref a :: As) U hU hW
    rw [List.map_cons] at this
    show hm_Pre g (.ref a :: As) μ (Value.ref (hm_ra g a) :: As.map (hm_cv g)).toArray U
    rw [← hm_ad_hi (g := g) ha.1]
    exact this
  · show (As.reverse ++ .ref a :: st).map (hm_cv g) = _
    rw [hm_rev, List.map_cons]
    show _ ++ Value.ref (hm_ad g a) :: _ = _
    rw [hm_ad_hi ha.1]
theorem tr_callS {ix n : Nat} {As : List Value} (ok : hm_okS d1 n) (hlk : Cond.methodLink d.1.cls ix d1.1 ∈ hm_tb) (hd : decode d.2.1 pc = .ok (.invokestatic ix, 3)) (hp : pc + 3 = pc') (hn : As.length = n) (hst : As.reverse ++ st = st0) (hcat : (st.map fun v => v.category).sum ≤ 8) (hfr : fr1 + 1 ≤ fr) (hk : kc1 ≤ kc) (hs : ks1 ≤ ks) (hc : hm_CC Λ1 d1 fr1 kc1 ks1 As μ r1 μ1)
    (K : hm_T Λ d fr (kc - kc1) (ks - ks1) r μ' pc' lv (r1.toList ++ st) μ1) : hm_T Λ d fr kc ks r μ' pc lv st0 μ := by
  subst hp; subst hst
  obtain ⟨o1, o2, o4, o5, o6, o7⟩ := ok
  refine hm_call hk hs (fun l g p e mc ms s m args below meth c H locs cells slots ls C w S L h1 h2 => ?_) K
  have hts := C.2.2.2.2.2.2.2.1
  have hG : GoodIn hm_tb (va_wsS d.1.cls ix d1.1 (hm_ws d1)) := by
    intro w hw
    rcases List.mem_append.mp hw with z | z
    · simp only [List.mem_cons, List.not_mem_nil, or_false] at z
      rcases z with rfl | rfl | rfl
      · exact hm_good _ hlk
      · exact hm_good _ o2
      · exact hm_good _ o4
    · exact hm_gws o1 w z
  refine va_runS (own := d.1.cls) (As := As.map (hm_cv g)) (Pc := hm_Pre g As μ) (n := n) (nL := d.2.2.1) (cc := d.2.1) (Ts := hm_tb) (bytes := d1.2.1) (maxL := d1.2.2.1) (ret := d1.2.2.2) (index := ix) ⟨C.1, C.2.1, C.2.2.1, C.2.2.2.2.2.1, hts⟩ (hc.2 l g) (va_cwS n hts hG rfl rfl rfl ⟨o5.1, o5.2, o6⟩ ⟨?_, ?_⟩) ⟨hm_blind g _ μ, fun U hU hW => hm_preU C w S U hU hW⟩ rfl (by rw [List.length_map]; exact hn) L.1 ?_ (lv_room (by rw [hm_cats]; exact hcat)) hd ⟨h1, h2⟩
  · show fr1 + 1 ≤ fr
    exact hfr
  · show 8 + (d1.2.2.1 + 11) + 40 * fr1 ≤ 40 * fr
    omega
  · show (As.reverse ++ st).map (hm_cv g) = _
    rw [hm_rev]
theorem tr_max {ix : Nat} {x y : Int32} (hlk : Cond.methodLink d.1.cls ix Lib.Math.max.name ∈ hm_tb) (h2 : Cond.static Lib.Math.max.name ∈ hm_tb) (h3 : Cond.initialized "java/lang/Math" ∈ hm_tb) (h4 : Cond.code Lib.Math.max.name Lib.Math.max.code 2 (some .int) ∈ hm_tb) (hd : decode d.2.1 pc = .ok (.invokestatic ix, 3)) (hp : pc + 3 = pc') (hcat : (st.map fun v => v.category).sum ≤ 8) (hfr : 1 ≤ fr) (K : hm_T Λ d fr kc ks r μ' pc' lv (.int (if x < y then y else x) :: st) μ) : hm_T Λ d fr kc ks r μ' pc lv (.int y :: .int x :: st) μ := by
  subst hp
  refine ⟨K.1, fun l g p e s m args below meth c H locs cells slots mc ms ls C w S L q1 q2 => ?_⟩
  have hts := C.2.2.2.2.2.2.2.1
  exact va_mmax (own := d.1.cls) C.1 C.2.1 (C.2.2.1.trans L.1.symm) C.2.2.2.2.2.1 (hts _ hlk) (hts _ h2) (hts _ h3) (hts _ h4) hfr (by rw [hm_cats]; show _ + 13 ≤ 40 * fr; omega) (by show cells ≤ mc; omega) (by show slots ≤ ms; omega) hd (K.2 l g p e s m args below meth c H locs cells slots mc ms ls C w S L q1 q2)
theorem tr_min {ix : Nat} {x y : Int32} (hlk : Cond.methodLink d.1.cls ix Lib.Math.min.name ∈ hm_tb) (h2 : Cond.static Lib.Math.min.name ∈ hm_tb) (h3 : Cond.initialized "java/lang/Math" ∈ hm_tb) (h4 : Cond.code Lib.Math.min.name Lib.Math.min.code 2 (some .int) ∈ hm_tb) (hd : decode d.2.1 pc = .ok (.invokestatic ix, 3)) (hp : pc + 3 = pc') (hcat : (st.map fun v => v.category).sum ≤ 8) (hfr : 1 ≤ fr) (K : hm_T Λ d fr kc ks r μ' pc' lv (.int (if y < x then y else x) :: st) μ) : hm_T Λ d fr kc ks r μ' pc lv (.int y :: .int x :: st) μ := by
  subst hp
  refine ⟨K.1, fun l g p e s m args below meth c H locs cells slots mc ms ls C w S L q1 q2 => ?_⟩
  have hts := C.2.2.2.2.2.2.2.1
  exact va_mmin (own := d.1.cls) C.1 C.2.1 (C.2.2.1.trans L.1.symm) C.2.2.2.2.2.1 (hts _ hlk) (hts _ h2) (hts _ h3) (hts _ h4) hfr (by rw [hm_cats]; show _ + 13 ≤ 40 * fr; omega) (by show cells ≤ mc; omega) (by show slots ≤ ms; omega) hd (K.2 l g p e s m args below meth c H locs cells slots mc ms ls C w S L q1 q2)
theorem tr_abs {ix : Nat} {x : Int32} (hlk : Cond.methodLink d.1.cls ix Lib.Math.abs.name ∈ hm_tb) (h2 : Cond.static Lib.Math.abs.name ∈ hm_tb) (h3 : Cond.initialized "java/lang/Math" ∈ hm_tb) (h4 : Cond.code Lib.Math.abs.name Lib.Math.abs.code 1 (some .int) ∈ hm_tb) (hd : decode d.2.1 pc = .ok (.invokestatic ix, 3)) (hp : pc + 3 = pc') (hcat : (st.map fun v => v.category).sum ≤ 8) (hfr : 1 ≤ fr) (K : hm_T Λ d fr kc ks r μ' pc' lv (.int (if 0 ≤ x then x else 0 - x) :: st) μ) : hm_T Λ d fr kc ks r μ' pc lv (.int x :: st) μ := by
  subst hp
  refine ⟨K.1, fun l g p e s m args below meth c H locs cells slots mc ms ls C w S L q1 q2 => ?_⟩
  have hts := C.2.2.2.2.2.2.2.1
  exact va_mabs (own := d.1.cls) C.1 C.2.1 (C.2.2.1.trans L.1.symm) C.2.2.2.2.2.1 (hts _ hlk) (hts _ h2) (hts _ h3) (hts _ h4) hfr (by rw [hm_cats]; show _ + 13 ≤ 40 * fr; omega) (by show cells ≤ mc; omega) (by show slots ≤ ms; omega) hd (K.2 l g p e s m args below meth c H locs cells slots mc ms ls C w S L q1 q2)
end HMC
