/-! What lies outside, a method's judgement and its contract, calls. -/
def hm_tb : List Cond := lw_tbl.filter goodWord
theorem hm_tb_in {w : Cond} (h : w ∈ lw_tbl) (hg : goodWord w = true) : w ∈ hm_tb := List.mem_filter.mpr ⟨h, hg⟩
theorem hm_good : GoodIn hm_tb hm_tb := fun _ h => ⟨h, good_of_word (List.mem_filter.mp h).2⟩
def hm_sT : List (String × String × List Int32) := [("HandRing", "TERM_FIRST", [0, 1, 0, 50]), ("HandRing", "TERM_MOST", [999, 10, 9, 99]), ("HandRing$Deeds", "WAY_ACROSS", [0, 0, 1, 0, -1]), ("HandRing$Deeds", "WAY_ALONG", [0, 1, 0, -1, 0])]
def hm_sS : List (Nat × String) := [(67, "loses tires bars"), (69, "take loose walk pass"), (161, "with from to"), (149, "one other kind kin far reach day mood"), (151, "day done latest holds lost cell hands"), (93, "if"), (105, "times"), (117, "or"), (129, "and"), (131, "not")]
def hm_sB : List (List Int32) := hm_sS.map (fun q => q.2.toList.map (fun c => Int32.ofNat c.toNat))
def hm_sL : List Nat := hm_sB.map List.length
def hm_nF : List (String × Nat × String × String × String × String) := [("HandRing$Village", 46, "HandRing", "TERM_FIRST", "[I", "HandRing"), ("HandRing$Deeds", 106, "HandRing", "TERM_MOST", "[I", "HandRing")]
def hm_nM : List (String × Nat × MethodName × String) := [("HandRing", 29, yX7_init, "HandRing"), ("HandRing", 36, yX3_init, "HandRing"), ("HandRing$Errand", 29, yX7_init, "HandRing"), ("HandRing", 68, yX6_init, "HandRing")]
/-- what lies outside and is never written: static rows, texts, the nest's links -/
def hm_E (g : hm_G) (U : State) : Prop :=
  (∀ (i : Nat) (q : String × String × List Int32), hm_sT[i]? = some q → va_Z q.1 q.2.1 "[I" (.ref (g.2.2.1 i)) (hm_A g) U U.heap ∧ va_T .int (g.2.2.1 i) q.2.2.length (fun j => .int (q.2.2.getD j 0)) (hm_A g) U U.heap) ∧
  (vk_S 10 hm_sL hm_sB (fun i => g.2.2.1 (4 + i)) (fun i => g.2.2.1 (20 + i)) (hm_A g) U U.heap ∧ (∀ (i : Nat) (q : Nat × String), hm_sS[i]? = some q → vk_R "HandRing$Reader" q.1 q.2 (g.2.2.1 (4 + i)) U) ∧ va_Z "java/lang/String" "COMPACT_STRINGS" "Z" (.int 1) (hm_A g) U U.heap ∧ (va_Z "jdk/internal/util/Preconditions" "SIOOBE_FORMATTER" "Ljava/util/function/BiFunction;" .null (hm_A g) U U.heap ∨ va_Z "jdk/internal/util/Preconditions" "SIOOBE_FORMATTER" "Ljava/util/function/BiFunction;" (.ref (g.2.2.1 40)) (hm_A g) U U.heap)) ∧
  (∀ (i : Nat) (q : String × Nat × String × String × String × String), hm_nF[i]? = some q → va_Nw (.fieldLinkNest q.1 q.2.1 q.2.2.1 q.2.2.2.1 q.2.2.2.2.1 q.2.2.2.2.2) U) ∧ (∀ (i : Nat) (q : String × Nat × MethodName × String), hm_nM[i]? = some q → va_Nw (.methodLinkNest q.1 q.2.1 q.2.2.1 q.2.2.2) U) ∧
  va_AO "HandRing$Program" U ∧ va_AO "HandRing$Village" U ∧ (Cond.arrayOver (.array .int)).before #[] U = true
theorem hm_E.to {g : hm_G} {s U : State} {H : Heap} {locs : List Loc} (h : hm_E g s) (hS : va_S (hm_A g) s.heap H locs) (hU : U.heap = H) (hW : s.WarmedH U.vm) : hm_E g U := by
  obtain ⟨h1, ⟨h2, h3, h4, h5⟩, h6, h7, h8, h9, h10⟩ := h
  have hq : ∀ a : Nat, a < s.heap.size → ¬ hm_A g a → U.heap[a]? = s.heap[a]? := fun a ha hn => by rw [hU]; exact hS.2.1 a ha hn
  refine ⟨fun i q hi => ⟨((h1 i q hi).1.moved hW.alike).kept hq, ((h1 i q hi).2.moved hW.alike).kept hq⟩, ⟨(h2.moved hW.alike).kept hq, fun i q hi => (h3 i q hi).warm hW, (h4.moved hW.alike).kept hq, h5.imp (fun h => (h.moved hW.alike).kept hq) (fun h => (h.moved hW.alike).kept hq)⟩, fun i q hi => (h6 i q hi).warmF hW, fun i q hi => (h7 i q hi).warmM hW, h8.moved hW.alike, h9.moved hW.alike, (Cond.arrayOver_setVmC (args := #[]) hW.alike _).trans h10⟩
abbrev hm_D : Type := MethodName × ByteArray × Nat × Option FieldType
def hm_rm (fr mc ms : Nat) : Room := { frames := fr, cells := mc, slots := ms, locals := 40 * fr }
def hm_ws (d : hm_D) : List Cond := .code d.1 d.2.1 d.2.2.1 d.2.2.2 :: hm_tb
def hm_Pre (g : hm_G) (av : List Value) (μ : hm_M) : Array Value → State → Prop := va_Pc (av.map (hm_cv g)) (fun U => hm_W g μ U.heap ∧ va_K g.1 vwCl (hm_tys g) U ∧ hm_E g U)
def hm_Qx (g : hm_G) (r : Option Value) (μ' : hm_M) : Array Value → State → Outcome → State → Prop := fun _ st oc t => oc = .returned (r.map (hm_cv g)) ∧ hm_W g μ' t.heap ∧ va_F (hm_A g) st t
/-- a method's contract at one call: from this memory it comes to that one, with that answer -/
def hm_CC (Λ : hm_M → Prop) (d : hm_D) (fr kc ks : Nat) (av : List Value) (μ : hm_M) (r : Option Value) (μ' : hm_M) : Prop :=
  Λ μ' ∧ ∀ (l : Launch) (g : hm_G), Met l d.1 (hm_ws d) (hm_rm fr kc ks) (hm_Pre g av μ) (hm_Qx g r μ') kc ks (hm_A g)
def hm_la (lv : List (Option Value)) : List (Nat × Value) := (List.range lv.length).filterMap (fun i => match lv[i]? with | some (some v) => some (i, v) | _ => none)
theorem hm_la_mem {lv : List (Option Value)} {q : Nat × Value} : q ∈ hm_la lv ↔ lv[q.1]? = some (some q.2) := by
  unfold hm_la
  rw [List.mem_filterMap]
  constructor
  · rintro ⟨i, -, h⟩
    split at h
    · next v hv => cases h; exact hv
    · cases h
  · intro h
    refine ⟨q.1, List.mem_range.mpr (List.getElem?_eq_some_iff.mp h).1, ?_⟩
    rw [h]
def hm_lv (g : hm_G) (l : List (Nat × Value)) : List (Nat × Value) := l.map (fun q => (q.1, hm_cv g q.2))
theorem hm_lv_mem {g : hm_G} {lv : List (Option Value)} {q : Nat × Value} (h : q ∈ hm_lv g (hm_la lv)) : ∃ v, lv[q.1]? = some (some v) ∧ q.2 = hm_cv g v := by
  obtain ⟨r, hr, rfl⟩ := List.mem_map.mp h
  exact ⟨r.2, hm_la_mem.mp hr, rfl⟩
theorem hm_lv_at {g : hm_G} {ls : Array Slot} {n : Nat} {lv : List (Option Value)} (h : lv_has ls n (hm_lv g (hm_la lv))) {i : Nat} {v : Value} (hi : lv[i]? = some (some v)) : ls[i]? = some (.val (hm_cv g v)) :=
  h.2.2 (i, hm_cv g v) (List.mem_map.mpr ⟨(i, v), hm_la_mem.mpr hi, rfl⟩)
/-- the locals behind a store -/
def hm_okp (lv : List (Option Value)) (i : Nat) : Bool := match i with
  | 0 => true
  | j + 1 => match lv[j]? with
    | some (some v) => v.category == 1
    | _ => true
theorem hm_okp_use {lv : List (Option Value)} {i j : Nat} {v : Value} (h : hm_okp lv i = true) (hj : j + 1 = i) (hv : lv[j]? = some (some v)) : v.category = 1 := by
  subst hj
  simpa [hm_okp, hv] using h
theorem hm_st1 {g : hm_G} {ls : Array Slot} {n i : Nat} {lv : List (Option Value)} {v : Value} (hp : hm_okp lv i = true) (h : lv_has ls n ((i, hm_cv g v) :: (hm_lv g (hm_la lv)).filter (fun q => !(q.1 == i) && !(q.1 + 1 == i && q.2.category == 2)))) : lv_has ls n (hm_lv g (hm_la (lv.set i (some v)))) := by
  refine ⟨h.1, h.2.1, fun q hq => h.2.2 q ?_⟩
  obtain ⟨w, hw, hw2⟩ := hm_lv_mem hq
  rw [List.getElem?_set] at hw
  by_cases e : i = q.1
  · rw [if_pos e] at hw
    by_cases hl : i < lv.length
    · rw [if_pos hl] at hw
      cases hw
      exact List.mem_cons.mpr (Or.inl (by rw [e, ← hw2]))
    · rw [if_neg hl] at hw
      cases hw
  · rw [if_neg e] at hw
    refine List.mem_cons_of_mem _ (List.mem_filter.mpr ⟨List.mem_map.mpr ⟨(q.1, w), hm_la_mem.mpr hw, by rw [← hw2]⟩, ?_⟩)
    have e1 : (q.1 == i) = false := by simpa using fun z => e z.symm
    by_cases e2 : q.1 + 1 = i
    · have := hm_okp_use hp e2 hw
      rw [hw2, hm_cat, this]
      simp [e1]
    · simp [e1, e2]
theorem hm_st2 {g : hm_G} {ls : Array Slot} {n i : Nat} {lv : List (Option Value)} {v : Value} (hp : hm_okp lv i = true) (h : lv_has ls n ((i, hm_cv g v) :: (hm_lv g (hm_la lv)).filter (fun q => !(q.1 == i) && (!(q.1 == i + 1) && !(q.1 + 1 == i && q.2.category == 2))))) : lv_has ls n (hm_lv g (hm_la ((lv.set i (some v)).set (i + 1) none))) := by
  refine ⟨h.1, h.2.1, fun q hq => h.2.2 q ?_⟩
  obtain ⟨w, hw, hw2⟩ := hm_lv_mem hq
  rw [List.getElem?_set] at hw
  by_cases e9 : i + 1 = q.1
  · rw [if_pos e9] at hw
    split at hw <;> cases hw
  · rw [if_neg e9, List.getElem?_set] at hw
    by_cases e : i = q.1
    · rw [if_pos e] at hw
      by_cases hl : i < lv.length
      · rw [if_pos hl] at hw
        cases hw
        exact List.mem_cons.mpr (Or.inl (by rw [e, ← hw2]))
      · rw [if_neg hl] at hw
        cases hw
    · rw [if_neg e] at hw
      refine List.mem_cons_of_mem _ (List.mem_filter.mpr ⟨List.mem_map.mpr ⟨(q.1, w), hm_la_mem.mpr hw, by rw [← hw2]⟩, ?_⟩)
      have e1 : (q.1 == i) = false := by simpa using fun z => e z.symm
      have e3 : (q.1 == i + 1) = false := by simpa using fun z => e9 z.symm
      by_cases e2 : q.1 + 1 = i
      · have := hm_okp_use hp e2 hw
        rw [hw2, hm_cat, this]
        simp [e1, e3]
      · simp [e1, e2, e3]
/-- what stands fast within a method -/
def hm_Cx (g : hm_G) (p : Program) (s : State) (m : MethodId) (args : Array Value) (meth : Method) (c : Code) (d : hm_D) : Prop :=
  p.tables.exec = Jvm.exec ∧ c.code = d.2.1 ∧ c.maxLocals = d.2.2.1 ∧ meth.sig.returnType = d.2.2.2 ∧ meth.locks = false ∧ s.vm.findClass d.1.cls = some m.cls ∧ meth.name = d.1.name ∧ (∀ w ∈ hm_tb, w.before args s = true) ∧ va_K g.1 vwCl (hm_tys g) s ∧ hm_E g s ∧ g.2.2.2 ≤ s.heap.size
/-- the judgement: from here the method comes to its end with the answer r and the memory μ' -/
def hm_T (Λ : hm_M → Prop) (d : hm_D) (fr kc ks : Nat) (r : Option Value) (μ' : hm_M) (pc : Nat) (lv : List (Option Value)) (st : List Value) (μ : hm_M) : Prop :=
  Λ μ' ∧ ∀ (l : Launch) (g : hm_G) (p : Program) (e : Env) (s : State) (m : MethodId) (args : Array Value) (below : List Frame) (meth : Method) (c : Code) (H : Heap) (locs : List Loc) (cells slots mc ms : Nat) (ls : Array Slot),
    hm_Cx g p s m args meth c d → hm_W g μ H → va_S (hm_A g) s.heap H locs → lv_has ls d.2.2.1 (hm_lv g (hm_la lv)) → cells + kc ≤ mc → slots + ks ≤ ms →
    W p l e (hm_rm fr mc ms) s m args below meth c H locs cells slots (MQ below (hm_Qx g r μ') args s mc ms (hm_A g)) (F0 m pc ls (st.map (hm_cv g)))
theorem hm_la_args (g : hm_G) : ∀ (vs : List Value) (n : Nat), lv_args n (vs.map (hm_cv g)) = hm_lv g (lv_args n vs)
  | [], _ => rfl
  | v :: vs, n => by
    simp only [List.map_cons, lv_args, hm_lv, List.map_cons]
    rw [hm_la_args g vs, hm_cat]
    rfl
theorem hm_sl_len (g : hm_G) : ∀ vs : List Value, (lg_sl (vs.map (hm_cv g))).length = (lg_sl vs).length := by
  intro vs
  induction vs with
  | nil => rfl
  | cons v vs ih => cases v <;> simp_all [lg_sl, hm_cv] <;> rfl
theorem hm_enter {Λ : hm_M → Prop} {d : hm_D} {fr kc ks : Nat} {av : List Value} {μ μ' : hm_M} {r : Option Value} (hy : plainName d.1.cls = true) {lv : List (Option Value)} (hlv : hm_la lv = lv_args 0 av) (hn : (lg_sl av).length ≤ d.2.2.1) (k : hm_T Λ d fr kc ks r μ' 0 lv [] μ) : hm_CC Λ d fr kc ks av μ r μ' := by
  refine ⟨k.1, fun l g => Met.ofW (cc := d.2.1) (maxL := d.2.2.1) (ret := d.2.2.2) (ws' := hm_tb) hy rfl ?_⟩
  intro p e s m args below meth c s₁ B hml hv
  obtain ⟨rfl, hW, hK, hE⟩ := hv
  have hts : ∀ w ∈ hm_ws d, w.before ((av.map (hm_cv g)).toArray) s = true := atoms_spec (ws := hm_ws d) B.pre
  have hl := lv_entry (av.map (hm_cv g)) (n := d.2.2.1) (by rw [hm_sl_len]; exact hn)
  rw [lg_entry_eq]
  rw [hm_la_args, ← hlv] at hl
  refine k.2 l g p e s m _ below meth c s.heap [] 0 0 kc ks _ ⟨B.exec, B.bytes, hml, B.returns, B.notSynchronized, findClass_of_methodNamed B.named, (name_of_methodNamed B.named B.method).1, fun w hw => hts w (List.mem_cons_of_mem _ hw), hK, hE, ?_⟩ hW va_S.rf hl (by omega) (by omega)
  rw [hW.2.1]
  exact Nat.le_add_right _ _
