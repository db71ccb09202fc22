/-! Rules, one an instruction. -/
section HMR
variable {Λ : hm_M → Prop} {d : hm_D} {fr kc ks : Nat} {r : Option Value} {μ μ' : hm_M} {pc pc' : Nat} {lv : List (Option Value)} {st st' : List Value}
theorem hm_go (h : ∀ (l : Launch) (g : hm_G) (p : Program) (e : Env) (R : Room) (s : State) (m : MethodId) (args : Array Value) (below : List Frame) (meth : Method) (c : Code) (H : Heap) (locs : List Loc) (cells slots : Nat) (Q : State → Prop) (ls : Array Slot), hm_Cx g p s m args meth c d → hm_W g μ H → va_S (hm_A g) s.heap H locs → lv_has ls d.2.2.1 (hm_lv g (hm_la lv)) → W p l e R s m args below meth c H locs cells slots Q (F0 m pc' ls (st'.map (hm_cv g))) → W p l e R s m args below meth c H locs cells slots Q (F0 m pc ls (st.map (hm_cv g)))) (k : hm_T Λ d fr kc ks r μ' pc' lv st' μ) : hm_T Λ d fr kc ks r μ' pc lv st μ :=
  ⟨k.1, fun l g p e s m args below meth c H locs cells slots mc ms ls C w S L h1 h2 => h l g p e _ s m args below meth c H locs cells slots _ ls C w S L (k.2 l g p e s m args below meth c H locs cells slots mc ms ls C w S L h1 h2)⟩
theorem hm_br {q : Prop} {p1 p2 : Nat} (h : ∀ (l : Launch) (g : hm_G) (p : Program) (e : Env) (R : Room) (s : State) (m : MethodId) (args : Array Value) (below : List Frame) (meth : Method) (c : Code) (H : Heap) (locs : List Loc) (cells slots : Nat) (Q : State → Prop) (ls : Array Slot), hm_Cx g p s m args meth c d → (q → W p l e R s m args below meth c H locs cells slots Q (F0 m p1 ls (st'.map (hm_cv g)))) → (¬ q → W p l e R s m args below meth c H locs cells slots Q (F0 m p2 ls (st'.map (hm_cv g)))) → W p l e R s m args below meth c H locs cells slots Q (F0 m pc ls (st.map (hm_cv g)))) (k1 : q → hm_T Λ d fr kc ks r μ' p1 lv st' μ) (k2 : ¬ q → hm_T Λ d fr kc ks r μ' p2 lv st' μ) : hm_T Λ d fr kc ks r μ' pc lv st μ :=
  ⟨(Classical.em q).elim (fun z => (k1 z).1) (fun z => (k2 z).1), fun l g p e s m args below meth c H locs cells slots mc ms ls C w S L h1 h2 => h l g p e _ s m args below meth c H locs cells slots _ ls C (fun z => (k1 z).2 l g p e s m args below meth c H locs cells slots mc ms ls C w S L h1 h2) (fun z => (k2 z).2 l g p e s m args below meth c H locs cells slots mc ms ls C w S L h1 h2)⟩
theorem hm_sto {lv' : List (Option Value)} (h : ∀ (l : Launch) (g : hm_G) (p : Program) (e : Env) (R : Room) (s : State) (m : MethodId) (args : Array Value) (below : List Frame) (meth : Method) (c : Code) (H : Heap) (locs : List Loc) (cells slots : Nat) (Q : State → Prop) (ls : Array Slot), hm_Cx g p s m args meth c d → lv_has ls d.2.2.1 (hm_lv g (hm_la lv)) → (∀ ls' : Array Slot, lv_has ls' d.2.2.1 (hm_lv g (hm_la lv')) → W p l e R s m args below meth c H locs cells slots Q (F0 m pc' ls' (st'.map (hm_cv g)))) → W p l e R s m args below meth c H locs cells slots Q (F0 m pc ls (st.map (hm_cv g)))) (k : hm_T Λ d fr kc ks r μ' pc' lv' st' μ) : hm_T Λ d fr kc ks r μ' pc lv st μ :=
  ⟨k.1, fun l g p e s m args below meth c H locs cells slots mc ms ls C w S L h1 h2 => h l g p e _ s m args below meth c H locs cells slots _ ls C L (fun ls' L' => k.2 l g p e s m args below meth c H locs cells slots mc ms ls' C w S L' h1 h2)⟩
theorem tr_iconst {n : Int} {v : Int32} (hd : decode d.2.1 pc = .ok (.iconst n, 1)) (hp : pc + 1 = pc') (hv : Int32.ofInt n = v) (k : hm_T Λ d fr kc ks r μ' pc' lv (.int v :: st) μ) : hm_T Λ d fr kc ks r μ' pc lv (st) μ := by
  subst hp
  exact hm_go (fun l g p e R s m args below meth c H locs cells slots Q ls C w0 S L w => lv_iconst C.1 C.2.1 hd hv w) k
theorem tr_bipush {n : Int} {v : Int32} (hd : decode d.2.1 pc = .ok (.bipush n, 2)) (hp : pc + 2 = pc') (hv : (Int8.ofInt n).toInt32 = v) (k : hm_T Λ d fr kc ks r μ' pc' lv (.int v :: st) μ) : hm_T Λ d fr kc ks r μ' pc lv (st) μ := by
  subst hp
  exact hm_go (fun l g p e R s m args below meth c H locs cells slots Q ls C w0 S L w => lv_bipush C.1 C.2.1 hd hv w) k
theorem tr_sipush {n : Int} {v : Int32} (hd : decode d.2.1 pc = .ok (.sipush n, 3)) (hp : pc + 3 = pc') (hv : (Int16.ofInt n).toInt32 = v) (k : hm_T Λ d fr kc ks r μ' pc' lv (.int v :: st) μ) : hm_T Λ d fr kc ks r μ' pc lv (st) μ := by
  subst hp
  exact hm_go (fun l g p e R s m args below meth c H locs cells slots Q ls C w0 S L w => lv_sipush C.1 C.2.1 hd hv w) k
theorem tr_lconst {n : Fin 2} {v : Int64} (hd : decode d.2.1 pc = .ok (.lconst n, 1)) (hp : pc + 1 = pc') (hv : Int64.ofNat (n : Nat) = v) (k : hm_T Λ d fr kc ks r μ' pc' lv (.long v :: st) μ) : hm_T Λ d fr kc ks r μ' pc lv (st) μ := by
  subst hp
  exact hm_go (fun l g p e R s m args below meth c H locs cells slots Q ls C w0 S L w => lv_lconst C.1 C.2.1 hd hv w) k
theorem tr_ldc {ix : Nat} {v : Int32} (hd : decode d.2.1 pc = .ok (.ldc ix, 2)) (hp : pc + 2 = pc') (hw : Cond.constant d.1.cls ix v ∈ hm_tb) (k : hm_T Λ d fr kc ks r μ' pc' lv (.int v :: st) μ) : hm_T Λ d fr kc ks r μ' pc lv (st) μ := by
  subst hp
  exact hm_go (fun l g p e R s m args below meth c H locs cells slots Q ls C w0 S L w => lv_ldc C.1 C.2.1 C.2.2.2.2.2.1 (C.2.2.2.2.2.2.2.1 _ hw) hd w) k
theorem tr_ldcw {ix : Nat} {v : Int32} (hd : decode d.2.1 pc = .ok (.ldc_w ix, 3)) (hp : pc + 3 = pc') (hw : Cond.constant d.1.cls ix v ∈ hm_tb) (k : hm_T Λ d fr kc ks r μ' pc' lv (.int v :: st) μ) : hm_T Λ d fr kc ks r μ' pc lv (st) μ := by
  subst hp
  exact hm_go (fun l g p e R s m args below meth c H locs cells slots Q ls C w0 S L w => lv_ldcw C.1 C.2.1 C.2.2.2.2.2.1 (C.2.2.2.2.2.2.2.1 _ hw) hd w) k
theorem tr_ldc2 {ix : Nat} {v : Int64} (hd : decode d.2.1 pc = .ok (.ldc2_w ix, 3)) (hp : pc + 3 = pc') (hw : Cond.constantLong d.1.cls ix v ∈ hm_tb) (k : hm_T Λ d fr kc ks r μ' pc' lv (.long v :: st) μ) : hm_T Λ d fr kc ks r μ' pc lv (st) μ := by
  subst hp
  exact hm_go (fun l g p e R s m args below meth c H locs cells slots Q ls C w0 S L w => lv_ldc2 C.1 C.2.1 C.2.2.2.2.2.1 (C.2.2.2.2.2.2.2.1 _ hw) hd w) k
theorem tr_null (hd : decode d.2.1 pc = .ok (.aconst_null, 1)) (hp : pc + 1 = pc') (k : hm_T Λ d fr kc ks r μ' pc' lv (.null :: st) μ) : hm_T Λ d fr kc ks r μ' pc lv (st) μ := by
  subst hp
  exact hm_go (fun l g p e R s m args below meth c H locs cells slots Q ls C w0 S L w => lv_null C.1 C.2.1 hd w) k
theorem tr_iload_n {q : Fin 4} {i : Nat} {x : Int32} (hd : decode d.2.1 pc = .ok (.iload_n q, 1)) (hp : pc + 1 = pc') (hi : (q : Nat) = i) (hl : lv[i]? = some (some (.int x))) (k : hm_T Λ d fr kc ks r μ' pc' lv (.int x :: st) μ) : hm_T Λ d fr kc ks r μ' pc lv (st) μ := by
  subst hp
  exact hm_go (fun l g p e R s m args below meth c H locs cells slots Q ls C w0 S L w => lv_iload_n C.1 C.2.1 hd hi (hm_lv_at L hl) w) k
theorem tr_iload {i : Nat} {x : Int32} (hd : decode d.2.1 pc = .ok (.iload i, 2)) (hp : pc + 2 = pc') (hl : lv[i]? = some (some (.int x))) (k : hm_T Λ d fr kc ks r μ' pc' lv (.int x :: st) μ) : hm_T Λ d fr kc ks r μ' pc lv (st) μ := by
  subst hp
  exact hm_go (fun l g p e R s m args below meth c H locs cells slots Q ls C w0 S L w => lv_iload C.1 C.2.1 hd (hm_lv_at L hl) w) k
theorem tr_lload_n {q : Fin 4} {i : Nat} {x : Int64} (hd : decode d.2.1 pc = .ok (.lload_n q, 1)) (hp : pc + 1 = pc') (hi : (q : Nat) = i) (hl : lv[i]? = some (some (.long x))) (k : hm_T Λ d fr kc ks r μ' pc' lv (.long x :: st) μ) : hm_T Λ d fr kc ks r μ' pc lv (st) μ := by
  subst hp
  exact hm_go (fun l g p e R s m args below meth c H locs cells slots Q ls C w0 S L w => lv_lload_n C.1 C.2.1 hd hi (hm_lv_at L hl) w) k
theorem tr_lload {i : Nat} {x : Int64} (hd : decode d.2.1 pc = .ok (.lload i, 2)) (hp : pc + 2 = pc') (hl : lv[i]? = some (some (.long x))) (k : hm_T Λ d fr kc ks r μ' pc' lv (.long x :: st) μ) : hm_T Λ d fr kc ks r μ' pc lv (st) μ := by
  subst hp
  exact hm_go (fun l g p e R s m args below meth c H locs cells slots Q ls C w0 S L w => lv_lload C.1 C.2.1 hd (hm_lv_at L hl) w) k
theorem tr_aload_n {q : Fin 4} {i : Nat} {x : Nat} (hd : decode d.2.1 pc = .ok (.aload_n q, 1)) (hp : pc + 1 = pc') (hi : (q : Nat) = i) (hl : lv[i]? = some (some (.ref x))) (k : hm_T Λ d fr kc ks r μ' pc' lv (.ref x :: st) μ) : hm_T Λ d fr kc ks r μ' pc lv (st) μ := by
  subst hp
  exact hm_go (fun l g p e R s m args below meth c H locs cells slots Q ls C w0 S L w => lv_aload_n C.1 C.2.1 hd hi (hm_lv_at L hl) w) k
theorem tr_aload {i : Nat} {x : Nat} (hd : decode d.2.1 pc = .ok (.aload i, 2)) (hp : pc + 2 = pc') (hl : lv[i]? = some (some (.ref x))) (k : hm_T Λ d fr kc ks r μ' pc' lv (.ref x :: st) μ) : hm_T Λ d fr kc ks r μ' pc lv (st) μ := by
  subst hp
  exact hm_go (fun l g p e R s m args below meth c H locs cells slots Q ls C w0 S L w => lv_aload C.1 C.2.1 hd (hm_lv_at L hl) w) k
theorem tr_aloadq_n {q : Fin 4} {i : Nat} {x : Option Nat} (hd : decode d.2.1 pc = .ok (.aload_n q, 1)) (hp : pc + 1 = pc') (hi : (q : Nat) = i) (hl : lv[i]? = some (some (va_rf x))) (k : hm_T Λ d fr kc ks r μ' pc' lv (va_rf x :: st) μ) : hm_T Λ d fr kc ks r μ' pc lv st μ := by
  subst hp
  cases x with
  | none => exact hm_go (fun l g p e R s m args below meth c H locs cells slots Q ls C w0 S L w => lv_aload_nN C.1 C.2.1 hd hi (hm_lv_at L hl) w) k
  | some x => exact hm_go (fun l g p e R s m args below meth c H locs cells slots Q ls C w0 S L w => lv_aload_n C.1 C.2.1 hd hi (hm_lv_at L hl) w) k
theorem tr_aloadq {i : Nat} {x : Option Nat} (hd : decode d.2.1 pc = .ok (.aload i, 2)) (hp : pc + 2 = pc') (hl : lv[i]? = some (some (va_rf x))) (k : hm_T Λ d fr kc ks r μ' pc' lv (va_rf x :: st) μ) : hm_T Λ d fr kc ks r μ' pc lv st μ := by
  subst hp
  cases x with
  | none => exact hm_go (fun l g p e R s m args below meth c H locs cells slots Q ls C w0 S L w => lv_aloadN C.1 C.2.1 hd (hm_lv_at L hl) w) k
  | some x => exact hm_go (fun l g p e R s m args below meth c H locs cells slots Q ls C w0 S L w => lv_aload C.1 C.2.1 hd (hm_lv_at L hl) w) k
theorem tr_istore_n {q : Fin 4} {i : Nat} {x : Int32} {lv' : List (Option Value)} (hd : decode d.2.1 pc = .ok (.istore_n q, 1)) (hp : pc + 1 = pc') (hi : (q : Nat) = i) (hn : i < d.2.2.1) (ho : hm_okp lv i = true) (hv : lv.set i (some (.int x)) = lv') (k : hm_T Λ d fr kc ks r μ' pc' lv' st μ) : hm_T Λ d fr kc ks r μ' pc lv (.int x :: st) μ := by
  subst hp; subst hv
  exact hm_sto (fun l g p e R s m args below meth c H locs cells slots Q ls C L kk => lv_istore_n C.1 C.2.1 hd hi L hn rfl (fun ls' L' => kk ls' (hm_st1 (v := .int x) ho L'))) k
theorem tr_istore {i : Nat} {x : Int32} {lv' : List (Option Value)} (hd : decode d.2.1 pc = .ok (.istore i, 2)) (hp : pc + 2 = pc') (hn : i < d.2.2.1) (ho : hm_okp lv i = true) (hv : lv.set i (some (.int x)) = lv') (k : hm_T Λ d fr kc ks r μ' pc' lv' st μ) : hm_T Λ d fr kc ks r μ' pc lv (.int x :: st) μ := by
  subst hp; subst hv
  exact hm_sto (fun l g p e R s m args below meth c H locs cells slots Q ls C L kk => lv_istore C.1 C.2.1 hd L hn rfl (fun ls' L' => kk ls' (hm_st1 (v := .int x) ho L'))) k
theorem tr_lstore_n {q : Fin 4} {i : Nat} {x : Int64} {lv' : List (Option Value)} (hd : decode d.2.1 pc = .ok (.lstore_n q, 1)) (hp : pc + 1 = pc') (hi : (q : Nat) = i) (hn : i + 1 < d.2.2.1) (ho : hm_okp lv i = true) (hv : (lv.set i (some (.long x))).set (i + 1) none = lv') (k : hm_T Λ d fr kc ks r μ' pc' lv' st μ) : hm_T Λ d fr kc ks r μ' pc lv (.long x :: st) μ := by
  subst hp; subst hv
  exact hm_sto (fun l g p e R s m args below meth c H locs cells slots Q ls C L kk => lv_lstore_n C.1 C.2.1 hd hi L hn rfl (fun ls' L' => kk ls' (hm_st2 (v := .long x) ho L'))) k
theorem tr_lstore {i : Nat} {x : Int64} {lv' : List (Option Value)} (hd : decode d.2.1 pc = .ok (.lstore i, 2)) (hp : pc + 2 = pc') (hn : i + 1 < d.2.2.1) (ho : hm_okp lv i = true) (hv : (lv.set i (some (.long x))).set (i + 1) none = lv') (k : hm_T Λ d fr kc ks r μ' pc' lv' st μ) : hm_T Λ d fr kc ks r μ' pc lv (.long x :: st) μ := by
  subst hp; subst hv
  exact hm_sto (fun l g p e R s m args below meth c H locs cells slots Q ls C L kk => lv_lstore C.1 C.2.1 hd L hn rfl (fun ls' L' => kk ls' (hm_st2 (v := .long x) ho L'))) k
theorem tr_astore_n {q : Fin 4} {i : Nat} {x : Nat} {lv' : List (Option Value)} (hd : decode d.2.1 pc = .ok (.astore_n q, 1)) (hp : pc + 1 = pc') (hi : (q : Nat) = i) (hn : i < d.2.2.1) (ho : hm_okp lv i = true) (hv : lv.set i (some (.ref x)) = lv') (k : hm_T Λ d fr kc ks r μ' pc' lv' st μ) : hm_T Λ d fr kc ks r μ' pc lv (.ref x :: st) μ := by
  subst hp; subst hv
  exact hm_sto (fun l g p e R s m args below meth c H locs cells slots Q ls C L kk => lv_astore_n C.1 C.2.1 hd hi L hn rfl (fun ls' L' => kk ls' (hm_st1 (v := .ref x) ho L'))) k
theorem tr_astore {i : Nat} {x : Nat} {lv' : List (Option Value)} (hd : decode d.2.1 pc = .ok (.astore i, 2)) (hp : pc + 2 = pc') (hn : i < d.2.2.1) (ho : hm_okp lv i = true) (hv : lv.set i (some (.ref x)) = lv') (k : hm_T Λ d fr kc ks r μ' pc' lv' st μ) : hm_T Λ d fr kc ks r μ' pc lv (.ref x :: st) μ := by
  subst hp; subst hv
  exact hm_sto (fun l g p e R s m args below meth c H locs cells slots Q ls C L kk => lv_astore C.1 C.2.1 hd L hn rfl (fun ls' L' => kk ls' (hm_st1 (v := .ref x) ho L'))) k
theorem tr_astoreq_n {q : Fin 4} {i : Nat} {x : Option Nat} {lv' : List (Option Value)} (hd : decode d.2.1 pc = .ok (.astore_n q, 1)) (hp : pc + 1 = pc') (hi : (q : Nat) = i) (hn : i < d.2.2.1) (ho : hm_okp lv i = true) (hv : lv.set i (some (va_rf x)) = lv') (k : hm_T Λ d fr kc ks r μ' pc' lv' st μ) : hm_T Λ d fr kc ks r μ' pc lv (va_rf x :: st) μ := by
  subst hp; subst hv
  cases x with
  | none => exact hm_sto (fun l g p e R s m args below meth c H locs cells slots Q ls C L kk => lv_astore_nN C.1 C.2.1 hd hi L hn rfl (fun ls' L' => kk ls' (hm_st1 (v := .null) ho L'))) k
  | some x => exact hm_sto (fun l g p e R s m args below meth c H locs cells slots Q ls C L kk => lv_astore_n C.1 C.2.1 hd hi L hn rfl (fun ls' L' => kk ls' (hm_st1 (v := .ref x) ho L'))) k
theorem tr_astoreq {i : Nat} {x : Option Nat} {lv' : List (Option Value)} (hd : decode d.2.1 pc = .ok (.astore i, 2)) (hp : pc + 2 = pc') (hn : i < d.2.2.1) (ho : hm_okp lv i = true) (hv : lv.set i (some (va_rf x)) = lv') (k : hm_T Λ d fr kc ks r μ' pc' lv' st μ) : hm_T Λ d fr kc ks r μ' pc lv (va_rf x :: st) μ := by
  subst hp; subst hv
  cases x with
  | none => exact hm_sto (fun l g p e R s m args below meth c H locs cells slots Q ls C L kk => lv_astoreN C.1 C.2.1 hd L hn rfl (fun ls' L' => kk ls' (hm_st1 (v := .null) ho L'))) k
  | some x => exact hm_sto (fun l g p e R s m args below meth c H locs cells slots Q ls C L kk => lv_astore C.1 C.2.1 hd L hn rfl (fun ls' L' => kk ls' (hm_st1 (v := .ref x) ho L'))) k
theorem tr_iinc {i : Nat} {n : Int} {x v : Int32} {lv' : List (Option Value)} (hd : decode d.2.1 pc = .ok (.iinc i n, 3)) (hp : pc + 3 = pc') (hl : lv[i]? = some (some (.int x))) (hx : x + Int32.ofInt n = v) (hn : i < d.2.2.1) (ho : hm_okp lv i = true) (hv : lv.set i (some (.int v)) = lv') (k : hm_T Λ d fr kc ks r μ' pc' lv' st μ) : hm_T Λ d fr kc ks r μ' pc lv st μ := by
  subst hp; subst hv
  have hm : (i, Value.int x) ∈ hm_la lv := hm_la_mem.mpr hl
  obtain ⟨j, hj⟩ := List.getElem?_of_mem hm
  exact hm_sto (fun l g p e R s m args below meth c H locs cells slots Q ls C L kk => lv_iinc (k := j) C.1 C.2.1 hd L (show (hm_lv g (hm_la lv))[j]? = some (i, .int x) by unfold hm_lv; rw [List.getElem?_map, hj]; rfl) hx hn rfl (fun ls' L' => kk ls' (hm_st1 (v := .int v) ho L'))) k
theorem tr_iadd {x y : Int32} (hd : decode d.2.1 pc = .ok (.iadd, 1)) (hp : pc + 1 = pc') (k : hm_T Λ d fr kc ks r μ' pc' lv (.int (x + y) :: st) μ) : hm_T Λ d fr kc ks r μ' pc lv (.int y :: .int x :: st) μ := by
  subst hp
  exact hm_go (fun l g p e R s m args below meth c H locs cells slots Q ls C w0 S L w => lv_iadd C.1 C.2.1 hd w) k
theorem tr_isub {x y : Int32} (hd : decode d.2.1 pc = .ok (.isub, 1)) (hp : pc + 1 = pc') (k : hm_T Λ d fr kc ks r μ' pc' lv (.int (x - y) :: st) μ) : hm_T Λ d fr kc ks r μ' pc lv (.int y :: .int x :: st) μ := by
  subst hp
  exact hm_go (fun l g p e R s m args below meth c H locs cells slots Q ls C w0 S L w => lv_isub C.1 C.2.1 hd w) k
theorem tr_imul {x y : Int32} (hd : decode d.2.1 pc = .ok (.imul, 1)) (hp : pc + 1 = pc') (k : hm_T Λ d fr kc ks r μ' pc' lv (.int (x * y) :: st) μ) : hm_T Λ d fr kc ks r μ' pc lv (.int y :: .int x :: st) μ := by
  subst hp
  exact hm_go (fun l g p e R s m args below meth c H locs cells slots Q ls C w0 S L w => lv_imul C.1 C.2.1 hd w) k
theorem tr_iand {x y : Int32} (hd : decode d.2.1 pc = .ok (.iand, 1)) (hp : pc + 1 = pc') (k : hm_T Λ d fr kc ks r μ' pc' lv (.int (x &&& y) :: st) μ) : hm_T Λ d fr kc ks r μ' pc lv (.int y :: .int x :: st) μ := by
  subst hp
  exact hm_go (fun l g p e R s m args below meth c H locs cells slots Q ls C w0 S L w => lv_iand C.1 C.2.1 hd w) k
theorem tr_ior {x y : Int32} (hd : decode d.2.1 pc = .ok (.ior, 1)) (hp : pc + 1 = pc') (k : hm_T Λ d fr kc ks r μ' pc' lv (.int (x ||| y) :: st) μ) : hm_T Λ d fr kc ks r μ' pc lv (.int y :: .int x :: st) μ := by
  subst hp
  exact hm_go (fun l g p e R s m args below meth c H locs cells slots Q ls C w0 S L w => lv_ior C.1 C.2.1 hd w) k
theorem tr_ixor {x y : Int32} (hd : decode d.2.1 pc = .ok (.ixor, 1)) (hp : pc + 1 = pc') (k : hm_T Λ d fr kc ks r μ' pc' lv (.int (x ^^^ y) :: st) μ) : hm_T Λ d fr kc ks r μ' pc lv (.int y :: .int x :: st) μ := by
  subst hp
  exact hm_go (fun l g p e R s m args below meth c H locs cells slots Q ls C w0 S L w => lv_ixor C.1 C.2.1 hd w) k
theorem tr_ishl {x y : Int32} (hd : decode d.2.1 pc = .ok (.ishl, 1)) (hp : pc + 1 = pc') (k : hm_T Λ d fr kc ks r μ' pc' lv (.int (x <<< (y &&& 31)) :: st) μ) : hm_T Λ d fr kc ks r μ' pc lv (.int y :: .int x :: st) μ := by
  subst hp
  exact hm_go (fun l g p e R s m args below meth c H locs cells slots Q ls C w0 S L w => lv_ishl C.1 C.2.1 hd w) k
theorem tr_ishr {x y : Int32} (hd : decode d.2.1 pc = .ok (.ishr, 1)) (hp : pc + 1 = pc') (k : hm_T Λ d fr kc ks r μ' pc' lv (.int (x >>> (y &&& 31)) :: st) μ) : hm_T Λ d fr kc ks r μ' pc lv (.int y :: .int x :: st) μ := by
  subst hp
  exact hm_go (fun l g p e R s m args below meth c H locs cells slots Q ls C w0 S L w => lv_ishr C.1 C.2.1 hd w) k
theorem tr_idiv {x y : Int32} (hd : decode d.2.1 pc = .ok (.idiv, 1)) (hp : pc + 1 = pc') (hne : ¬ y = 0) (k : hm_T Λ d fr kc ks r μ' pc' lv (.int (x / y) :: st) μ) : hm_T Λ d fr kc ks r μ' pc lv (.int y :: .int x :: st) μ := by
  subst hp
  exact hm_go (fun l g p e R s m args below meth c H locs cells slots Q ls C w0 S L w => lv_idiv C.1 C.2.1 hd hne w) k
theorem tr_irem {x y : Int32} (hd : decode d.2.1 pc = .ok (.irem, 1)) (hp : pc + 1 = pc') (hne : ¬ y = 0) (k : hm_T Λ d fr kc ks r μ' pc' lv (.int (x - x / y * y) :: st) μ) : hm_T Λ d fr kc ks r μ' pc lv (.int y :: .int x :: st) μ := by
  subst hp
  exact hm_go (fun l g p e R s m args below meth c H locs cells slots Q ls C w0 S L w => lv_irem C.1 C.2.1 hd hne w) k
theorem tr_iushr {x y : Int32} (hd : decode d.2.1 pc = .ok (.iushr, 1)) (hp : pc + 1 = pc') (k : hm_T Λ d fr kc ks r μ' pc' lv (.int ((x.toUInt32 >>> (y.toUInt32 &&& Int32.toUInt32 31)).toInt32) :: st) μ) : hm_T Λ d fr kc ks r μ' pc lv (.int y :: .int x :: st) μ := by
  subst hp
  exact hm_go (fun l g p e R s m args below meth c H locs cells slots Q ls C w0 S L w => lv_iushr C.1 C.2.1 hd rfl w) k
theorem tr_ladd {x y : Int64} (hd : decode d.2.1 pc = .ok (.ladd, 1)) (hp : pc + 1 = pc') (k : hm_T Λ d fr kc ks r μ' pc' lv (.long (x + y) :: st) μ) : hm_T Λ d fr kc ks r μ' pc lv (.long y :: .long x :: st) μ := by
  subst hp
  exact hm_go (fun l g p e R s m args below meth c H locs cells slots Q ls C w0 S L w => lv_ladd C.1 C.2.1 hd w) k
theorem tr_lsub {x y : Int64} (hd : decode d.2.1 pc = .ok (.lsub, 1)) (hp : pc + 1 = pc') (k : hm_T Λ d fr kc ks r μ' pc' lv (.long (x - y) :: st) μ) : hm_T Λ d fr kc ks r μ' pc lv (.long y :: .long x :: st) μ := by
  subst hp
  exact hm_go (fun l g p e R s m args below meth c H locs cells slots Q ls C w0 S L w => lv_lsub C.1 C.2.1 hd w) k
theorem tr_lmul {x y : Int64} (hd : decode d.2.1 pc = .ok (.lmul, 1)) (hp : pc + 1 = pc') (k : hm_T Λ d fr kc ks r μ' pc' lv (.long (x * y) :: st) μ) : hm_T Λ d fr kc ks r μ' pc lv (.long y :: .long x :: st) μ := by
  subst hp
  exact hm_go (fun l g p e R s m args below meth c H locs cells slots Q ls C w0 S L w => lv_lmul C.1 C.2.1 hd w) k
theorem tr_lor {x y : Int64} (hd : decode d.2.1 pc = .ok (.lor, 1)) (hp : pc + 1 = pc') (k : hm_T Λ d fr kc ks r μ' pc' lv (.long (x ||| y) :: st) μ) : hm_T Λ d fr kc ks r μ' pc lv (.long y :: .long x :: st) μ := by
  subst hp
  exact hm_go (fun l g p e R s m args below meth c H locs cells slots Q ls C w0 S L w => lv_lor C.1 C.2.1 hd w) k
theorem tr_land {x y : Int64} (hd : decode d.2.1 pc = .ok (.land, 1)) (hp : pc + 1 = pc') (k : hm_T Λ d fr kc ks r μ' pc' lv (.long (x &&& y) :: st) μ) : hm_T Λ d fr kc ks r μ' pc lv (.long y :: .long x :: st) μ := by
  subst hp
  exact hm_go (fun l g p e R s m args below meth c H locs cells slots Q ls C w0 S L w => lv_land C.1 C.2.1 hd w) k
theorem tr_ldiv {x y : Int64} (hd : decode d.2.1 pc = .ok (.ldiv, 1)) (hp : pc + 1 = pc') (hne : ¬ y = 0) (k : hm_T Λ d fr kc ks r μ' pc' lv (.long (x / y) :: st) μ) : hm_T Λ d fr kc ks r μ' pc lv (.long y :: .long x :: st) μ := by
  subst hp
  exact hm_go (fun l g p e R s m args below meth c H locs cells slots Q ls C w0 S L w => lv_ldiv C.1 C.2.1 hd hne w) k
theorem tr_lrem {x y : Int64} (hd : decode d.2.1 pc = .ok (.lrem, 1)) (hp : pc + 1 = pc') (hne : ¬ y = 0) (k : hm_T Λ d fr kc ks r μ' pc' lv (.long (x - x / y * y) :: st) μ) : hm_T Λ d fr kc ks r μ' pc lv (.long y :: .long x :: st) μ := by
  subst hp
  exact hm_go (fun l g p e R s m args below meth c H locs cells slots Q ls C w0 S L w => lv_lrem C.1 C.2.1 hd hne w) k
theorem tr_ineg {x : Int32} (hd : decode d.2.1 pc = .ok (.ineg, 1)) (hp : pc + 1 = pc') (k : hm_T Λ d fr kc ks r μ' pc' lv (.int (-x) :: st) μ) : hm_T Λ d fr kc ks r μ' pc lv (.int x :: st) μ := by
  subst hp
  exact hm_go (fun l g p e R s m args below meth c H locs cells slots Q ls C w0 S L w => lv_ineg C.1 C.2.1 hd w) k
theorem tr_lshl {x : Int64} {y : Int32} (hd : decode d.2.1 pc = .ok (.lshl, 1)) (hp : pc + 1 = pc') (k : hm_T Λ d fr kc ks r μ' pc' lv (.long (x <<< (y.toInt64 &&& 63)) :: st) μ) : hm_T Λ d fr kc ks r μ' pc lv (.int y :: .long x :: st) μ := by
  subst hp
  exact hm_go (fun l g p e R s m args below meth c H locs cells slots Q ls C w0 S L w => lv_lshl C.1 C.2.1 hd rfl w) k
theorem tr_lushr {x : Int64} {y : Int32} (hd : decode d.2.1 pc = .ok (.lushr, 1)) (hp : pc + 1 = pc') (k : hm_T Λ d fr kc ks r μ' pc' lv (.long ((x.toUInt64 >>> (y.toInt64.toUInt64 &&& Int64.toUInt64 63)).toInt64) :: st) μ) : hm_T Λ d fr kc ks r μ' pc lv (.int y :: .long x :: st) μ := by
  subst hp
  exact hm_go (fun l g p e R s m args below meth c H locs cells slots Q ls C w0 S L w => lv_lushr C.1 C.2.1 hd rfl w) k
theorem tr_i2l {x : Int32} (hd : decode d.2.1 pc = .ok (.i2l, 1)) (hp : pc + 1 = pc') (k : hm_T Λ d fr kc ks r μ' pc' lv (.long x.toInt64 :: st) μ) : hm_T Λ d fr kc ks r μ' pc lv (.int x :: st) μ := by
  subst hp
  exact hm_go (fun l g p e R s m args below meth c H locs cells slots Q ls C w0 S L w => lv_i2l C.1 C.2.1 hd rfl w) k
theorem tr_l2i {x : Int64} (hd : decode d.2.1 pc = .ok (.l2i, 1)) (hp : pc + 1 = pc') (k : hm_T Λ d fr kc ks r μ' pc' lv (.int x.toInt32 :: st) μ) : hm_T Λ d fr kc ks r μ' pc lv (.long x :: st) μ := by
  subst hp
  exact hm_go (fun l g p e R s m args below meth c H locs cells slots Q ls C w0 S L w => lv_l2i C.1 C.2.1 hd rfl w) k
theorem tr_i2b {x : Int32} (hd : decode d.2.1 pc = .ok (.i2b, 1)) (hp : pc + 1 = pc') (k : hm_T Λ d fr kc ks r μ' pc' lv (.int x.toInt8.toInt32 :: st) μ) : hm_T Λ d fr kc ks r μ' pc lv (.int x :: st) μ := by
  subst hp
  exact hm_go (fun l g p e R s m args below meth c H locs cells slots Q ls C w0 S L w => lv_i2b C.1 C.2.1 hd rfl w) k
theorem tr_i2c {x : Int32} (hd : decode d.2.1 pc = .ok (.i2c, 1)) (hp : pc + 1 = pc') (k : hm_T Λ d fr kc ks r μ' pc' lv (.int (x.toUInt32 % 65536).toInt32 :: st) μ) : hm_T Λ d fr kc ks r μ' pc lv (.int x :: st) μ := by
  subst hp
  exact hm_go (fun l g p e R s m args below meth c H locs cells slots Q ls C w0 S L w => lv_i2c C.1 C.2.1 hd rfl w) k
theorem tr_lcmp {x y : Int64} (hd : decode d.2.1 pc = .ok (.lcmp, 1)) (hp : pc + 1 = pc') (k : hm_T Λ d fr kc ks r μ' pc' lv (.int (lg_cmp x y) :: st) μ) : hm_T Λ d fr kc ks r μ' pc lv (.long y :: .long x :: st) μ := by
  subst hp
  exact hm_go (fun l g p e R s m args below meth c H locs cells slots Q ls C w0 S L w => W.lcmp C.1 C.2.1 hd w) k
theorem tr_dup {x : Value} (hd : decode d.2.1 pc = .ok (.dup, 1)) (hp : pc + 1 = pc') (hc : x.category = 1) (k : hm_T Λ d fr kc ks r μ' pc' lv (x :: x :: st) μ) : hm_T Λ d fr kc ks r μ' pc lv (x :: st) μ := by
  subst hp
  exact hm_go (fun l g p e R s m args below meth c H locs cells slots Q ls C w0 S L w => lv_dup C.1 C.2.1 hd (by rw [hm_cat]; exact hc) w) k
theorem tr_pop {x : Value} (hd : decode d.2.1 pc = .ok (.pop, 1)) (hp : pc + 1 = pc') (hc : x.category = 1) (k : hm_T Λ d fr kc ks r μ' pc' lv (st) μ) : hm_T Λ d fr kc ks r μ' pc lv (x :: st) μ := by
  subst hp
  exact hm_go (fun l g p e R s m args below meth c H locs cells slots Q ls C w0 S L w => lv_pop C.1 C.2.1 hd (by rw [hm_cat]; exact hc) w) k
theorem tr_dup2 {x y : Value} (hd : decode d.2.1 pc = .ok (.dup2, 1)) (hp : pc + 1 = pc') (hc : x.category = 1) (hc2 : y.category = 1) (k : hm_T Λ d fr kc ks r μ' pc' lv (x :: y :: x :: y :: st) μ) : hm_T Λ d fr kc ks r μ' pc lv (x :: y :: st) μ := by
  subst hp
  exact hm_go (fun l g p e R s m args below meth c H locs cells slots Q ls C w0 S L w => lv_dup2_11 C.1 C.2.1 hd (by rw [hm_cat]; exact hc) (by rw [hm_cat]; exact hc2) w) k
theorem tr_goto {off : Int} {tgt : Nat} (hd : decode d.2.1 pc = .ok (.goto off, 3)) (ht : (pc : Int) + off = (tgt : Int)) (k : hm_T Λ d fr kc ks r μ' tgt lv st μ) : hm_T Λ d fr kc ks r μ' pc lv st μ :=
  hm_go (fun l g p e R s m args below meth c H locs cells slots Q ls C w0 S L w => lv_goto C.1 C.2.1 hd ht w) k
theorem tr_if_eq {x : Int32} {off : Int} {tgt : Nat} (hd : decode d.2.1 pc = .ok (.ifCond .eq off, 3)) (ht : (pc : Int) + off = (tgt : Int)) (hp : pc + 3 = pc') (kt : x = 0 → hm_T Λ d fr kc ks r μ' tgt lv st μ) (kf : ¬ (x = 0) → hm_T Λ d fr kc ks r μ' pc' lv st μ) : hm_T Λ d fr kc ks r μ' pc lv (.int x :: st) μ := by
  subst hp
  exact hm_br (fun l g p e R s m args below meth c H locs cells slots Q ls C kt kf => lv_if_eq C.1 C.2.1 hd ht kt kf) kt (fun z => kf (z))
theorem tr_if_eq_t {x : Int32} {off : Int} {tgt : Nat} (h : x = 0) (hd : decode d.2.1 pc = .ok (.ifCond .eq off, 3)) (ht : (pc : Int) + off = (tgt : Int)) (k : hm_T Λ d fr kc ks r μ' tgt lv st μ) : hm_T Λ d fr kc ks r μ' pc lv (.int x :: st) μ := tr_if_eq hd ht rfl (fun _ => k) (fun z => absurd h z)
theorem tr_if_eq_f {x : Int32} {off : Int} {tgt : Nat} (h : ¬ (x = 0)) (hd : decode d.2.1 pc = .ok (.ifCond .eq off, 3)) (ht : (pc : Int) + off = (tgt : Int)) (hp : pc + 3 = pc') (k : hm_T Λ d fr kc ks r μ' pc' lv st μ) : hm_T Λ d fr kc ks r μ' pc lv (.int x :: st) μ := tr_if_eq hd ht hp (fun z => absurd z h) (fun _ => k)
theorem tr_icmp_eq {x y : Int32} {off : Int} {tgt : Nat} (hd : decode d.2.1 pc = .ok (.if_icmp .eq off, 3)) (ht : (pc : Int) + off = (tgt : Int)) (hp : pc + 3 = pc') (kt : x = y → hm_T Λ d fr kc ks r μ' tgt lv st μ) (kf : ¬ (x = y) → hm_T Λ d fr kc ks r μ' pc' lv st μ) : hm_T Λ d fr kc ks r μ' pc lv (.int y :: .int x :: st) μ := by
  subst hp
  exact hm_br (fun l g p e R s m args below meth c H locs cells slots Q ls C kt kf => lv_icmp_eq C.1 C.2.1 hd ht kt kf) kt (fun z => kf (z))
theorem tr_icmp_eq_t {x y : Int32} {off : Int} {tgt : Nat} (h : x = y) (hd : decode d.2.1 pc = .ok (.if_icmp .eq off, 3)) (ht : (pc : Int) + off = (tgt : Int)) (k : hm_T Λ d fr kc ks r μ' tgt lv st μ) : hm_T Λ d fr kc ks r μ' pc lv (.int y :: .int x :: st) μ := tr_icmp_eq hd ht rfl (fun _ => k) (fun z => absurd h z)
theorem tr_icmp_eq_f {x y : Int32} {off : Int} {tgt : Nat} (h : ¬ (x = y)) (hd : decode d.2.1 pc = .ok (.if_icmp .eq off, 3)) (ht : (pc : Int) + off = (tgt : Int)) (hp : pc + 3 = pc') (k : hm_T Λ d fr kc ks r μ' pc' lv st μ) : hm_T Λ d fr kc ks r μ' pc lv (.int y :: .int x :: st) μ := tr_icmp_eq hd ht hp (fun z => absurd z h) (fun _ => k)
theorem tr_if_ne {x : Int32} {off : Int} {tgt : Nat} (hd : decode d.2.1 pc = .ok (.ifCond .ne off, 3)) (ht : (pc : Int) + off = (tgt : Int)) (hp : pc + 3 = pc') (kt : ¬ x = 0 → hm_T Λ d fr kc ks r μ' tgt lv st μ) (kf : x = 0 → hm_T Λ d fr kc ks r μ' pc' lv st μ) : hm_T Λ d fr kc ks r μ' pc lv (.int x :: st) μ := by
  subst hp
  exact hm_br (fun l g p e R s m args below meth c H locs cells slots Q ls C kt kf => lv_if_ne C.1 C.2.1 hd ht kt (fun z => kf (fun q => q z))) kt (fun z => kf (Classical.not_not.mp z))
theorem tr_if_ne_t {x : Int32} {off : Int} {tgt : Nat} (h : ¬ x = 0) (hd : decode d.2.1 pc = .ok (.ifCond .ne off, 3)) (ht : (pc : Int) + off = (tgt : Int)) (k : hm_T Λ d fr kc ks r μ' tgt lv st μ) : hm_T Λ d fr kc ks r μ' pc lv (.int x :: st) μ := tr_if_ne hd ht rfl (fun _ => k) (fun z => absurd z h)
theorem tr_if_ne_f {x : Int32} {off : Int} {tgt : Nat} (h : x = 0) (hd : decode d.2.1 pc = .ok (.ifCond .ne off, 3)) (ht : (pc : Int) + off = (tgt : Int)) (hp : pc + 3 = pc') (k : hm_T Λ d fr kc ks r μ' pc' lv st μ) : hm_T Λ d fr kc ks r μ' pc lv (.int x :: st) μ := tr_if_ne hd ht hp (fun z => absurd h z) (fun _ => k)
theorem tr_icmp_ne {x y : Int32} {off : Int} {tgt : Nat} (hd : decode d.2.1 pc = .ok (.if_icmp .ne off, 3)) (ht : (pc : Int) + off = (tgt : Int)) (hp : pc + 3 = pc') (kt : ¬ x = y → hm_T Λ d fr kc ks r μ' tgt lv st μ) (kf : x = y → hm_T Λ d fr kc ks r μ' pc' lv st μ) : hm_T Λ d fr kc ks r μ' pc lv (.int y :: .int x :: st) μ := by
  subst hp
  exact hm_br (fun l g p e R s m args below meth c H locs cells slots Q ls C kt kf => lv_icmp_ne C.1 C.2.1 hd ht kt (fun z => kf (fun q => q z))) kt (fun z => kf (Classical.not_not.mp z))
theorem tr_icmp_ne_t {x y : Int32} {off : Int} {tgt : Nat} (h : ¬ x = y) (hd : decode d.2.1 pc = .ok (.if_icmp .ne off, 3)) (ht : (pc : Int) + off = (tgt : Int)) (k : hm_T Λ d fr kc ks r μ' tgt lv st μ) : hm_T Λ d fr kc ks r μ' pc lv (.int y :: .int x :: st) μ := tr_icmp_ne hd ht rfl (fun _ => k) (fun z => absurd z h)
theorem tr_icmp_ne_f {x y : Int32} {off : Int} {tgt : Nat} (h : x = y) (hd : decode d.2.1 pc = .ok (.if_icmp .ne off, 3)) (ht : (pc : Int) + off = (tgt : Int)) (hp : pc + 3 = pc') (k : hm_T Λ d fr kc ks r μ' pc' lv st μ) : hm_T Λ d fr kc ks r μ' pc lv (.int y :: .int x :: st) μ := tr_icmp_ne hd ht hp (fun z => absurd h z) (fun _ => k)
theorem tr_if_lt {x : Int32} {off : Int} {tgt : Nat} (hd : decode d.2.1 pc = .ok (.ifCond .lt off, 3)) (ht : (pc : Int) + off = (tgt : Int)) (hp : pc + 3 = pc') (kt : x < 0 → hm_T Λ d fr kc ks r μ' tgt lv st μ) (kf : ¬ (x < 0) → hm_T Λ d fr kc ks r μ' pc' lv st μ) : hm_T Λ d fr kc ks r μ' pc lv (.int x :: st) μ := by
  subst hp
  exact hm_br (fun l g p e R s m args below meth c H locs cells slots Q ls C kt kf => lv_if_lt C.1 C.2.1 hd ht kt kf) kt (fun z => kf (z))
theorem tr_if_lt_t {x : Int32} {off : Int} {tgt : Nat} (h : x < 0) (hd : decode d.2.1 pc = .ok (.ifCond .lt off, 3)) (ht : (pc : Int) + off = (tgt : Int)) (k : hm_T Λ d fr kc ks r μ' tgt lv st μ) : hm_T Λ d fr kc ks r μ' pc lv (.int x :: st) μ := tr_if_lt hd ht rfl (fun _ => k) (fun z => absurd h z)
theorem tr_if_lt_f {x : Int32} {off : Int} {tgt : Nat} (h : ¬ (x < 0)) (hd : decode d.2.1 pc = .ok (.ifCond .lt off, 3)) (ht : (pc : Int) + off = (tgt : Int)) (hp : pc + 3 = pc') (k : hm_T Λ d fr kc ks r μ' pc' lv st μ) : hm_T Λ d fr kc ks r μ' pc lv (.int x :: st) μ := tr_if_lt hd ht hp (fun z => absurd z h) (fun _ => k)
theorem tr_icmp_lt {x y : Int32} {off : Int} {tgt : Nat} (hd : decode d.2.1 pc = .ok (.if_icmp .lt off, 3)) (ht : (pc : Int) + off = (tgt : Int)) (hp : pc + 3 = pc') (kt : x < y → hm_T Λ d fr kc ks r μ' tgt lv st μ) (kf : ¬ (x < y) → hm_T Λ d fr kc ks r μ' pc' lv st μ) : hm_T Λ d fr kc ks r μ' pc lv (.int y :: .int x :: st) μ := by
  subst hp
  exact hm_br (fun l g p e R s m args below meth c H locs cells slots Q ls C kt kf => lv_icmp_lt C.1 C.2.1 hd ht kt kf) kt (fun z => kf (z))
theorem tr_icmp_lt_t {x y : Int32} {off : Int} {tgt : Nat} (h : x < y) (hd : decode d.2.1 pc = .ok (.if_icmp .lt off, 3)) (ht : (pc : Int) + off = (tgt : Int)) (k : hm_T Λ d fr kc ks r μ' tgt lv st μ) : hm_T Λ d fr kc ks r μ' pc lv (.int y :: .int x :: st) μ := tr_icmp_lt hd ht rfl (fun _ => k) (fun z => absurd h z)
theorem tr_icmp_lt_f {x y : Int32} {off : Int} {tgt : Nat} (h : ¬ (x < y)) (hd : decode d.2.1 pc = .ok (.if_icmp .lt off, 3)) (ht : (pc : Int) + off = (tgt : Int)) (hp : pc + 3 = pc') (k : hm_T Λ d fr kc ks r μ' pc' lv st μ) : hm_T Λ d fr kc ks r μ' pc lv (.int y :: .int x :: st) μ := tr_icmp_lt hd ht hp (fun z => absurd z h) (fun _ => k)
theorem tr_if_ge {x : Int32} {off : Int} {tgt : Nat} (hd : decode d.2.1 pc = .ok (.ifCond .ge off, 3)) (ht : (pc : Int) + off = (tgt : Int)) (hp : pc + 3 = pc') (kt : 0 ≤ x → hm_T Λ d fr kc ks r μ' tgt lv st μ) (kf : ¬ (0 ≤ x) → hm_T Λ d fr kc ks r μ' pc' lv st μ) : hm_T Λ d fr kc ks r μ' pc lv (.int x :: st) μ := by
  subst hp
  exact hm_br (fun l g p e R s m args below meth c H locs cells slots Q ls C kt kf => lv_if_ge C.1 C.2.1 hd ht kt kf) kt (fun z => kf (z))
theorem tr_if_ge_t {x : Int32} {off : Int} {tgt : Nat} (h : 0 ≤ x) (hd : decode d.2.1 pc = .ok (.ifCond .ge off, 3)) (ht : (pc : Int) + off = (tgt : Int)) (k : hm_T Λ d fr kc ks r μ' tgt lv st μ) : hm_T Λ d fr kc ks r μ' pc lv (.int x :: st) μ := tr_if_ge hd ht rfl (fun _ => k) (fun z => absurd h z)
theorem tr_if_ge_f {x : Int32} {off : Int} {tgt : Nat} (h : ¬ (0 ≤ x)) (hd : decode d.2.1 pc = .ok (.ifCond .ge off, 3)) (ht : (pc : Int) + off = (tgt : Int)) (hp : pc + 3 = pc') (k : hm_T Λ d fr kc ks r μ' pc' lv st μ) : hm_T Λ d fr kc ks r μ' pc lv (.int x :: st) μ := tr_if_ge hd ht hp (fun z => absurd z h) (fun _ => k)
theorem tr_icmp_ge {x y : Int32} {off : Int} {tgt : Nat} (hd : decode d.2.1 pc = .ok (.if_icmp .ge off, 3)) (ht : (pc : Int) + off = (tgt : Int)) (hp : pc + 3 = pc') (kt : y ≤ x → hm_T Λ d fr kc ks r μ' tgt lv st μ) (kf : ¬ (y ≤ x) → hm_T Λ d fr kc ks r μ' pc' lv st μ) : hm_T Λ d fr kc ks r μ' pc lv (.int y :: .int x :: st) μ := by
  subst hp
  exact hm_br (fun l g p e R s m args below meth c H locs cells slots Q ls C kt kf => lv_icmp_ge C.1 C.2.1 hd ht kt kf) kt (fun z => kf (z))
theorem tr_icmp_ge_t {x y : Int32} {off : Int} {tgt : Nat} (h : y ≤ x) (hd : decode d.2.1 pc = .ok (.if_icmp .ge off, 3)) (ht : (pc : Int) + off = (tgt : Int)) (k : hm_T Λ d fr kc ks r μ' tgt lv st μ) : hm_T Λ d fr kc ks r μ' pc lv (.int y :: .int x :: st) μ := tr_icmp_ge hd ht rfl (fun _ => k) (fun z => absurd h z)
theorem tr_icmp_ge_f {x y : Int32} {off : Int} {tgt : Nat} (h : ¬ (y ≤ x)) (hd : decode d.2.1 pc = .ok (.if_icmp .ge off, 3)) (ht : (pc : Int) + off = (tgt : Int)) (hp : pc + 3 = pc') (k : hm_T Λ d fr kc ks r μ' pc' lv st μ) : hm_T Λ d fr kc ks r μ' pc lv (.int y :: .int x :: st) μ := tr_icmp_ge hd ht hp (fun z => absurd z h) (fun _ => k)
theorem tr_if_gt {x : Int32} {off : Int} {tgt : Nat} (hd : decode d.2.1 pc = .ok (.ifCond .gt off, 3)) (ht : (pc : Int) + off = (tgt : Int)) (hp : pc + 3 = pc') (kt : 0 < x → hm_T Λ d fr kc ks r μ' tgt lv st μ) (kf : ¬ (0 < x) → hm_T Λ d fr kc ks r μ' pc' lv st μ) : hm_T Λ d fr kc ks r μ' pc lv (.int x :: st) μ := by
  subst hp
  exact hm_br (fun l g p e R s m args below meth c H locs cells slots Q ls C kt kf => lv_if_gt C.1 C.2.1 hd ht kt kf) kt (fun z => kf (z))
theorem tr_if_gt_t {x : Int32} {off : Int} {tgt : Nat} (h : 0 < x) (hd : decode d.2.1 pc = .ok (.ifCond .gt off, 3)) (ht : (pc : Int) + off = (tgt : Int)) (k : hm_T Λ d fr kc ks r μ' tgt lv st μ) : hm_T Λ d fr kc ks r μ' pc lv (.int x :: st) μ := tr_if_gt hd ht rfl (fun _ => k) (fun z => absurd h z)
theorem tr_if_gt_f {x : Int32} {off : Int} {tgt : Nat} (h : ¬ (0 < x)) (hd : decode d.2.1 pc = .ok (.ifCond .gt off, 3)) (ht : (pc : Int) + off = (tgt : Int)) (hp : pc + 3 = pc') (k : hm_T Λ d fr kc ks r μ' pc' lv st μ) : hm_T Λ d fr kc ks r μ' pc lv (.int x :: st) μ := tr_if_gt hd ht hp (fun z => absurd z h) (fun _ => k)
theorem tr_icmp_gt {x y : Int32} {off : Int} {tgt : Nat} (hd : decode d.2.1 pc = .ok (.if_icmp .gt off, 3)) (ht : (pc : Int) + off = (tgt : Int)) (hp : pc + 3 = pc') (kt : y < x → hm_T Λ d fr kc ks r μ' tgt lv st μ) (kf : ¬ (y < x) → hm_T Λ d fr kc ks r μ' pc' lv st μ) : hm_T Λ d fr kc ks r μ' pc lv (.int y :: .int x :: st) μ := by
  subst hp
  exact hm_br (fun l g p e R s m args below meth c H locs cells slots Q ls C kt kf => lv_icmp_gt C.1 C.2.1 hd ht kt kf) kt (fun z => kf (z))
theorem tr_icmp_gt_t {x y : Int32} {off : Int} {tgt : Nat} (h : y < x) (hd : decode d.2.1 pc = .ok (.if_icmp .gt off, 3)) (ht : (pc : Int) + off = (tgt : Int)) (k : hm_T Λ d fr kc ks r μ' tgt lv st μ) : hm_T Λ d fr kc ks r μ' pc lv (.int y :: .int x :: st) μ := tr_icmp_gt hd ht rfl (fun _ => k) (fun z => absurd h z)
theorem tr_icmp_gt_f {x y : Int32} {off : Int} {tgt : Nat} (h : ¬ (y < x)) (hd : decode d.2.1 pc = .ok (.if_icmp .gt off, 3)) (ht : (pc : Int) + off = (tgt : Int)) (hp : pc + 3 = pc') (k : hm_T Λ d fr kc ks r μ' pc' lv st μ) : hm_T Λ d fr kc ks r μ' pc lv (.int y :: .int x :: st) μ := tr_icmp_gt hd ht hp (fun z => absurd z h) (fun _ => k)
theorem tr_if_le {x : Int32} {off : Int} {tgt : Nat} (hd : decode d.2.1 pc = .ok (.ifCond .le off, 3)) (ht : (pc : Int) + off = (tgt : Int)) (hp : pc + 3 = pc') (kt : x ≤ 0 → hm_T Λ d fr kc ks r μ' tgt lv st μ) (kf : ¬ (x ≤ 0) → hm_T Λ d fr kc ks r μ' pc' lv st μ) : hm_T Λ d fr kc ks r μ' pc lv (.int x :: st) μ := by
  subst hp
  exact hm_br (fun l g p e R s m args below meth c H locs cells slots Q ls C kt kf => lv_if_le C.1 C.2.1 hd ht kt kf) kt (fun z => kf (z))
theorem tr_if_le_t {x : Int32} {off : Int} {tgt : Nat} (h : x ≤ 0) (hd : decode d.2.1 pc = .ok (.ifCond .le off, 3)) (ht : (pc : Int) + off = (tgt : Int)) (k : hm_T Λ d fr kc ks r μ' tgt lv st μ) : hm_T Λ d fr kc ks r μ' pc lv (.int x :: st) μ := tr_if_le hd ht rfl (fun _ => k) (fun z => absurd h z)
theorem tr_if_le_f {x : Int32} {off : Int} {tgt : Nat} (h : ¬ (x ≤ 0)) (hd : decode d.2.1 pc = .ok (.ifCond .le off, 3)) (ht : (pc : Int) + off = (tgt : Int)) (hp : pc + 3 = pc') (k : hm_T Λ d fr kc ks r μ' pc' lv st μ) : hm_T Λ d fr kc ks r μ' pc lv (.int x :: st) μ := tr_if_le hd ht hp (fun z => absurd z h) (fun _ => k)
theorem tr_icmp_le {x y : Int32} {off : Int} {tgt : Nat} (hd : decode d.2.1 pc = .ok (.if_icmp .le off, 3)) (ht : (pc : Int) + off = (tgt : Int)) (hp : pc + 3 = pc') (kt : x ≤ y → hm_T Λ d fr kc ks r μ' tgt lv st μ) (kf : ¬ (x ≤ y) → hm_T Λ d fr kc ks r μ' pc' lv st μ) : hm_T Λ d fr kc ks r μ' pc lv (.int y :: .int x :: st) μ := by
  subst hp
  exact hm_br (fun l g p e R s m args below meth c H locs cells slots Q ls C kt kf => lv_icmp_le C.1 C.2.1 hd ht kt kf) kt (fun z => kf (z))
theorem tr_icmp_le_t {x y : Int32} {off : Int} {tgt : Nat} (h : x ≤ y) (hd : decode d.2.1 pc = .ok (.if_icmp .le off, 3)) (ht : (pc : Int) + off = (tgt : Int)) (k : hm_T Λ d fr kc ks r μ' tgt lv st μ) : hm_T Λ d fr kc ks r μ' pc lv (.int y :: .int x :: st) μ := tr_icmp_le hd ht rfl (fun _ => k) (fun z => absurd h z)
theorem tr_icmp_le_f {x y : Int32} {off : Int} {tgt : Nat} (h : ¬ (x ≤ y)) (hd : decode d.2.1 pc = .ok (.if_icmp .le off, 3)) (ht : (pc : Int) + off = (tgt : Int)) (hp : pc + 3 = pc') (k : hm_T Λ d fr kc ks r μ' pc' lv st μ) : hm_T Λ d fr kc ks r μ' pc lv (.int y :: .int x :: st) μ := tr_icmp_le hd ht hp (fun z => absurd z h) (fun _ => k)
theorem tr_ifnn_t {a : Nat} {off : Int} {tgt : Nat} (hd : decode d.2.1 pc = .ok (.ifnonnull off, 3)) (ht : (pc : Int) + off = (tgt : Int)) (k : hm_T Λ d fr kc ks r μ' tgt lv st μ) : hm_T Λ d fr kc ks r μ' pc lv (.ref a :: st) μ :=
  hm_go (fun l g p e R s m args below meth c H locs cells slots Q ls C w0 S L w => lv_ifnonnull C.1 C.2.1 hd ht w) k
theorem tr_ifnn_f {off : Int} (hd : decode d.2.1 pc = .ok (.ifnonnull off, 3)) (hp : pc + 3 = pc') (k : hm_T Λ d fr kc ks r μ' pc' lv st μ) : hm_T Λ d fr kc ks r μ' pc lv (.null :: st) μ := by
  subst hp
  exact hm_go (fun l g p e R s m args below meth c H locs cells slots Q ls C w0 S L w => lv_ifnonnullN C.1 C.2.1 hd w) k
theorem tr_tin {dflt lo hi off : Int} {offs : Array Int} {len tgt : Nat} {x : Int32} (hd : decode d.2.1 pc = .ok (.tableswitch dflt lo hi offs, len)) (h1 : ¬ x.toInt < lo) (h2 : ¬ hi < x.toInt) (ho : offs[(x.toInt - lo).toNat]? = some off) (ht : (pc : Int) + off = (tgt : Int)) (k : hm_T Λ d fr kc ks r μ' tgt lv st μ) : hm_T Λ d fr kc ks r μ' pc lv (.int x :: st) μ :=
  hm_go (fun l g p e R s m args below meth c H locs cells slots Q ls C w0 S L w => lv_tableIn C.1 C.2.1 hd h1 h2 ho ht w) k
theorem tr_tout {dflt lo hi : Int} {offs : Array Int} {len tgt : Nat} {x : Int32} (hd : decode d.2.1 pc = .ok (.tableswitch dflt lo hi offs, len)) (h : x.toInt < lo ∨ hi < x.toInt) (ht : (pc : Int) + dflt = (tgt : Int)) (k : hm_T Λ d fr kc ks r μ' tgt lv st μ) : hm_T Λ d fr kc ks r μ' pc lv (.int x :: st) μ :=
  hm_go (fun l g p e R s m args below meth c H locs cells slots Q ls C w0 S L w => lv_tableOut C.1 C.2.1 hd h ht w) k
end HMR
