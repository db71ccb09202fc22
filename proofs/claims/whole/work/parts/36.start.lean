/-! THE CLAIM OUT OF ONE WALK OF THE LAW'S BODY. Your part is whole_start (and what it stands on); all else here is the same for every law, but numbers. -/
def R_law : String := "HandRingLaw"
def lw_P (b : Addr) (xs : List Int32) (args : Array Value) (s : State) : Prop := args = #[.ref b] ∧ s.IntsAt b xs ∧ xs.length ≤ 3072 ∧ (Jvm.Cond.and given_1 narrow_1).before args s = true
def lw_Q (_ : Array Value) (s : State) (o : Outcome) (t : State) : Prop := o = .returned (some (.int 1)) ∧ Framed s o t [] 600000 7302250
def lw_Z (below : List Frame) (a : Array Value) (s : State) : State → Prop := fun t => ∃ o, t.status = .running ∧ Ended t below o ∧ lw_Q a s o t
/-- the law's own end, with 1 on the stack, nothing written that was there before, its room as the claim has it -/
theorem lw_ret {p : Program} {l : Launch} {e : Env} {s : State} {m : MethodId} {below : List Frame} {meth : Method} {c : Code} {b : Nat} (hx : p.tables.exec = Jvm.exec) (hb : c.code = code) (hr : meth.sig.returnType = ret) (hlocks : meth.locks = false) {pc : Nat} {H : Heap} {ls : Array Slot} (hdg : decode code pc = .ok (.ireturn, 1)) : W p l e room_1 s m #[Value.ref b] below meth c H [] 600000 7302250 (lw_Z below #[Value.ref b] s) (F0 m pc ls [.int 1]) := by
  intro T hT X
  obtain ⟨fs, hret, hrun, hended, hW, hframe⟩ := X.leave (v := some (.int 1)) (hlocks := hlocks) (fun h => by rw [hr] at h; cases h)
  have hmeth' : T.vm.method? m = some meth := X.method'
  refine ⟨T.setFrames fs, ?_, .returned (some (.int 1)), hrun, hended, rfl, ⟨_, rfl⟩, hW, hframe⟩
  jvm_step X.here [X.here.top, hx, hb, hdg, hmeth', hr, ret, narrow_b1]
  (try refine ⟨rfl, ?_⟩); (try refine ⟨rfl, ?_⟩)
  first | (intro acts; rw [hret _ acts rfl rfl rfl]) | rw [hret _ _ rfl rfl rfl]
  exact Steps.refl _
/-- what holds at the law's entry: the machine, the code, the tables' words (any of lw_tbl by 'hts w (by decide +kernel)'), the script of L ints xs at the cell b, what the Statement gives of the start (any of its parts by flat_of_before) -/
def lw_At (p : Program) (s : State) (m : MethodId) (meth : Method) (c : Code) (b L : Nat) (xs : Nat → Int32) : Prop :=
  p.tables.exec = Jvm.exec ∧ c.code = code ∧ meth.sig.returnType = ret ∧ c.maxLocals = 4 ∧ s.vm.findClass R_law = some m.cls ∧ (∀ w ∈ lw_tbl, w.before #[Value.ref b] s = true) ∧ va_X b L xs s s.heap ∧ b < s.heap.size ∧ meth.locks = false ∧ (Jvm.Cond.and given_1 narrow_1).before #[Value.ref b] s = true
abbrev wa_l : List Cond := flatC (Jvm.Cond.and given_1 narrow_1)
section WAS
variable {args : Array Value} {s : State}
theorem wa_prim {ty : FieldType} (hr : ∀ cA, s.vm.findClass ("[" ++ ty.toString) = some cA → va_RA s cA ty) (h : (Cond.arrayClass ty).before args s = true) : ∃ cA, ArrOfT s cA ty ∧ va_RA s cA ty := by
  obtain ⟨cA, k, comp, h1, h2, h3⟩ := Cond.arrayClass_spec h
  exact ⟨cA, fun n z => ⟨fun k h => (by cases h), k, h2, comp, h3⟩, hr cA h1⟩
theorem wa_obj {C : String} (h : (Cond.arrayOver (.object C)).before args s = true) : ∃ cA, ArrOfT s cA (.object C) ∧ va_RA s cA (.object C) := by
  obtain ⟨comp, cA, k, h1, -, h2, h3, h4⟩ := Cond.arrayOver_spec h
  exact ⟨cA, fun n z => ⟨fun k h => (by cases h), k, h2, comp, h3⟩, k, comp, h2, h3, h1, h4⟩
theorem wa_rows (h : (Cond.arrayOver (.array .int)).before args s = true) : ∃ cA, ArrOfT s cA (.array .int) ∧ va_RA s cA (.array .int) := by
  obtain ⟨comp, cA, k, h1, -, h2, h3, h4⟩ := arrayOverA_spec h
  exact ⟨cA, fun n z => ⟨fun k h => (by cases h), k, h2, comp, h3⟩, h4⟩
theorem wa_classes (hts : ∀ w ∈ lw_tbl, w.before args s = true) : ∃ D : Nat → ClassId × (Nat → Nat), ∀ (k : Nat) (q : vw_C), vwCl[k]? = some q → u_Kn s q.1 q.2.1 q.2.2 (D k).1 (D k).2 := by
  have h : ∀ k : Nat, ∃ x : ClassId × (Nat → Nat), ∀ q : vw_C, vwCl[k]? = some q → u_Kn s q.1 q.2.1 q.2.2 x.1 x.2 := by
    intro k
    match k with
    | 0 => obtain ⟨cC, iS, h⟩ := u_known (n := 7) hts (fun w hw => (List.mem_filter.mp (kl_0.2.2.1 w hw)).1) (hts (.instantiable RX0 7) (tb_1 (List.mem_of_getElem? (i := 217) rfl))); exact ⟨(cC, iS), fun q hq => by cases hq; exact h⟩
    | 1 => obtain ⟨cC, iS, h⟩ := u_known (n := 2) hts (fun w hw => (List.mem_filter.mp (kl_1.2.2.1 w hw)).1) (hts (.instantiable RX1 2) (tb_1 (List.mem_of_getElem? (i := 169) rfl))); exact ⟨(cC, iS), fun q hq => by cases hq; exact h⟩
    | 2 => obtain ⟨cC, iS, h⟩ := u_known (n := 7) hts (fun w hw => (List.mem_filter.mp (kl_2.2.2.1 w hw)).1) (hts (.instantiable RX2 7) (tb_1 (List.mem_of_getElem? (i := 182) rfl))); exact ⟨(cC, iS), fun q hq => by cases hq; exact h⟩
    | 3 => obtain ⟨cC, iS, h⟩ := u_known (n := 1) hts (fun w hw => (List.mem_filter.mp (kl_3.2.2.1 w hw)).1) (hts (.instantiable RX3 1) (tb_1 (List.mem_of_getElem? (i := 136) rfl))); exact ⟨(cC, iS), fun q hq => by cases hq; exact h⟩
    | 4 => obtain ⟨cC, iS, h⟩ := u_known (n := 3) hts (fun w hw => (List.mem_filter.mp (kl_4.2.2.1 w hw)).1) (hts (.instantiable RX4 3) (tb_1 (List.mem_of_getElem? (i := 142) rfl))); exact ⟨(cC, iS), fun q hq => by cases hq; exact h⟩
    | 5 => obtain ⟨cC, iS, h⟩ := u_known (n := 6) hts (fun w hw => (List.mem_filter.mp (kl_5.2.2.1 w hw)).1) (hts (.instantiable RX5 6) (tb_2 (List.mem_of_getElem? (i := 12) rfl))); exact ⟨(cC, iS), fun q hq => by cases hq; exact h⟩
    | 6 => obtain ⟨cC, iS, h⟩ := u_known (n := 10) hts (fun w hw => (List.mem_filter.mp (kl_6.2.2.1 w hw)).1) (hts (.instantiable RX6 10) (tb_2 (List.mem_of_getElem? (i := 6) rfl))); exact ⟨(cC, iS), fun q hq => by cases hq; exact h⟩
    | 7 => obtain ⟨cC, iS, h⟩ := u_known (n := 3) hts (fun w hw => (List.mem_filter.mp (kl_7.2.2.1 w hw)).1) (hts (.instantiable RX7 3) (tb_1 (List.mem_of_getElem? (i := 116) rfl))); exact ⟨(cC, iS), fun q hq => by cases hq; exact h⟩
    | 8 => obtain ⟨cC, iS, h⟩ := u_known (n := 13) hts (fun w hw => (List.mem_filter.mp (kl_8.2.2.1 w hw)).1) (hts (.instantiable RX8 13) (tb_1 (List.mem_of_getElem? (i := 30) rfl))); exact ⟨(cC, iS), fun q hq => by cases hq; exact h⟩
    | 9 => obtain ⟨cC, iS, h⟩ := u_known (n := 19) hts (fun w hw => (List.mem_filter.mp (kl_9.2.2.1 w hw)).1) (hts (.instantiable RX9 19) (tb_1 (List.mem_of_getElem? (i := 22) rfl))); exact ⟨(cC, iS), fun q hq => by cases hq; exact h⟩
    | 10 => obtain ⟨cC, iS, h⟩ := u_known (n := 56) hts (fun w hw => (List.mem_filter.mp (kl_10.2.2.1 w hw)).1) (hts (.instantiable RX10 56) (tb_5 (List.mem_of_getElem? (i := 138) rfl))); exact ⟨(cC, iS), fun q hq => by cases hq; exact h⟩
    | k + 11 => exact ⟨(default, fun _ => 0), fun q hq => by cases hq⟩
  exact Classical.axiomOfChoice h
def wa_ty : Nat → Option FieldType
  | 11 => some .byte
  | 12 => some .char
  | 13 => some .int
  | 14 => some .long
  | 15 => some .boolean
  | 16 => some (.object "HandRing$Program")
  | 17 => some (.object "HandRing$Village")
  | 18 => some (.array .int)
  | _ => none
theorem wa_types (hts : ∀ w ∈ lw_tbl, w.before args s = true) : ∃ D : Nat → ClassId, ∀ (k : Nat) (ty : FieldType), wa_ty k = some ty → ArrOfT s (D k) ty ∧ va_RA s (D k) ty := by
  have h : ∀ k : Nat, ∃ cA : ClassId, ∀ ty : FieldType, wa_ty k = some ty → ArrOfT s cA ty ∧ va_RA s cA ty := by
    intro k
    match k with
    | 0 | 1 | 2 | 3 | 4 | 5 | 6 | 7 | 8 | 9 | 10 => exact ⟨default, fun q hq => by cases hq⟩
    | 11 => obtain ⟨cA, h⟩ := wa_prim (ty := .byte) (fun _ z => z) (hts _ (tb_3 (List.mem_of_getElem? (i := 211) rfl))); exact ⟨cA, fun q hq => by cases hq; exact h⟩
    | 12 => obtain ⟨cA, h⟩ := wa_prim (ty := .char) (fun _ z => z) (hts _ (tb_2 (List.mem_of_getElem? (i := 78) rfl))); exact ⟨cA, fun q hq => by cases hq; exact h⟩
    | 13 => obtain ⟨cA, h⟩ := wa_prim (ty := .int) (fun _ z => z) (hts _ (tb_1 (List.mem_of_getElem? (i := 113) rfl))); exact ⟨cA, fun q hq => by cases hq; exact h⟩
    | 14 => obtain ⟨cA, h⟩ := wa_prim (ty := .long) (fun _ z => z) (hts _ (tb_2 (List.mem_of_getElem? (i := 137) rfl))); exact ⟨cA, fun q hq => by cases hq; exact h⟩
    | 15 => obtain ⟨cA, h⟩ := wa_prim (ty := .boolean) (fun _ z => z) (hts _ (tb_1 (List.mem_of_getElem? (i := 134) rfl))); exact ⟨cA, fun q hq => by cases hq; exact h⟩
    | 16 => obtain ⟨cA, h⟩ := wa_obj (C := "HandRing$Program") (hts _ (tb_1 (List.mem_of_getElem? (i := 36) rfl))); exact ⟨cA, fun q hq => by cases hq; exact h⟩
    | 17 => obtain ⟨cA, h⟩ := wa_obj (C := "HandRing$Village") (hts _ (tb_1 (List.mem_of_getElem? (i := 114) rfl))); exact ⟨cA, fun q hq => by cases hq; exact h⟩
    | 18 => obtain ⟨cA, h⟩ := wa_rows (hts _ (tb_1 (List.mem_of_getElem? (i := 122) rfl))); exact ⟨cA, fun q hq => by cases hq; exact h⟩
    | k + 19 => exact ⟨default, fun q hq => by cases hq⟩
  exact Classical.axiomOfChoice h
theorem wa_s0 {A : Nat → Prop} (hts : ∀ w ∈ lw_tbl, w.before args s = true) (h : ∀ w ∈ wa_l, w.before args s = true) (hA : ∀ a : Nat, a < s.heap.size → ¬ A a) : ∃ t : Nat, va_Z "HandRing" "TERM_FIRST" "[I" (.ref t) A s s.heap ∧ va_T .int t 4 (fun j => .int (([0, 1, 0, 50] : List Int32).getD j 0)) A s s.heap := by
  obtain ⟨t, h1, h2⟩ := va_Tof (tm := .static "HandRing" "TERM_FIRST" "[I") (ty := .int) (N := 4) (f := fun j => .int (([0, 1, 0, 50] : List Int32).getD j 0)) (by decide) (h _ (List.mem_of_getElem? (i := 5) rfl)) (va_eqt (h _ (List.mem_of_getElem? (i := 6) rfl))) (fun j hj => by
    match j, hj with
    | 0, _ => exact va_eqt (h _ (List.mem_of_getElem? (i := 7) rfl))
    | 1, _ => exact va_eqt (h _ (List.mem_of_getElem? (i := 8) rfl))
    | 2, _ => exact va_eqt (h _ (List.mem_of_getElem? (i := 9) rfl))
    | 3, _ => exact va_eqt (h _ (List.mem_of_getElem? (i := 10) rfl))
    | j + 4, hj => omega) hA
  exact ⟨t, va_Zof (hts _ (tb_1 (List.mem_of_getElem? (i := 38) rfl))) (hts _ (tb_1 (List.mem_of_getElem? (i := 1) rfl))) h1 hA, h2⟩
theorem wa_s1 {A : Nat → Prop} (hts : ∀ w ∈ lw_tbl, w.before args s = true) (h : ∀ w ∈ wa_l, w.before args s = true) (hA : ∀ a : Nat, a < s.heap.size → ¬ A a) : ∃ t : Nat, va_Z "HandRing" "TERM_MOST" "[I" (.ref t) A s s.heap ∧ va_T .int t 4 (fun j => .int (([999, 10, 9, 99] : List Int32).getD j 0)) A s s.heap := by
  obtain ⟨t, h1, h2⟩ := va_Tof (tm := .static "HandRing" "TERM_MOST" "[I") (ty := .int) (N := 4) (f := fun j => .int (([999, 10, 9, 99] : List Int32).getD j 0)) (by decide) (h _ (List.mem_of_getElem? (i := 12) rfl)) (va_eqt (h _ (List.mem_of_getElem? (i := 13) rfl))) (fun j hj => by
    match j, hj with
    | 0, _ => exact va_eqt (h _ (List.mem_of_getElem? (i := 14) rfl))
    | 1, _ => exact va_eqt (h _ (List.mem_of_getElem? (i := 15) rfl))
    | 2, _ => exact va_eqt (h _ (List.mem_of_getElem? (i := 16) rfl))
    | 3, _ => exact va_eqt (h _ (List.mem_of_getElem? (i := 17) rfl))
    | j + 4, hj => omega) hA
  exact ⟨t, va_Zof (hts _ (tb_3 (List.mem_of_getElem? (i := 10) rfl))) (hts _ (tb_1 (List.mem_of_getElem? (i := 1) rfl))) h1 hA, h2⟩
theorem wa_s2 {A : Nat → Prop} (hts : ∀ w ∈ lw_tbl, w.before args s = true) (h : ∀ w ∈ wa_l, w.before args s = true) (hA : ∀ a : Nat, a < s.heap.size → ¬ A a) : ∃ t : Nat, va_Z "HandRing$Deeds" "WAY_ACROSS" "[I" (.ref t) A s s.heap ∧ va_T .int t 5 (fun j => .int (([0, 0, 1, 0, -1] : List Int32).getD j 0)) A s s.heap := by
  obtain ⟨t, h1, h2⟩ := va_Tof (tm := .static "HandRing$Deeds" "WAY_ACROSS" "[I") (ty := .int) (N := 5) (f := fun j => .int (([0, 0, 1, 0, -1] : List Int32).getD j 0)) (by decide) (h _ (List.mem_of_getElem? (i := 24) rfl)) (va_eqt (h _ (List.mem_of_getElem? (i := 25) rfl))) (fun j hj => by
    match j, hj with
    | 0, _ => exact va_eqt (h _ (List.mem_of_getElem? (i := 26) rfl))
    | 1, _ => exact va_eqt (h _ (List.mem_of_getElem? (i := 27) rfl))
    | 2, _ => exact va_eqt (h _ (List.mem_of_getElem? (i := 28) rfl))
    | 3, _ => exact va_eqt (h _ (List.mem_of_getElem? (i := 29) rfl))
    | 4, _ => exact va_eqt (h _ (List.mem_of_getElem? (i := 30) rfl))
    | j + 5, hj => omega) hA
  exact ⟨t, va_Zof (hts _ (tb_4 (List.mem_of_getElem? (i := 58) rfl))) (hts _ (tb_1 (List.mem_of_getElem? (i := 8) rfl))) h1 hA, h2⟩
theorem wa_s3 {A : Nat → Prop} (hts : ∀ w ∈ lw_tbl, w.before args s = true) (h : ∀ w ∈ wa_l, w.before args s = true) (hA : ∀ a : Nat, a < s.heap.size → ¬ A a) : ∃ t : Nat, va_Z "HandRing$Deeds" "WAY_ALONG" "[I" (.ref t) A s s.heap ∧ va_T .int t 5 (fun j => .int (([0, 1, 0, -1, 0] : List Int32).getD j 0)) A s s.heap := by
  obtain ⟨t, h1, h2⟩ := va_Tof (tm := .static "HandRing$Deeds" "WAY_ALONG" "[I") (ty := .int) (N := 5) (f := fun j => .int (([0, 1, 0, -1, 0] : List Int32).getD j 0)) (by decide) (h _ (List.mem_of_getElem? (i := 32) rfl)) (va_eqt (h _ (List.mem_of_getElem? (i := 33) rfl))) (fun j hj => by
    match j, hj with
    | 0, _ => exact va_eqt (h _ (List.mem_of_getElem? (i := 34) rfl))
    | 1, _ => exact va_eqt (h _ (List.mem_of_getElem? (i := 35) rfl))
    | 2, _ => exact va_eqt (h _ (List.mem_of_getElem? (i := 36) rfl))
    | 3, _ => exact va_eqt (h _ (List.mem_of_getElem? (i := 37) rfl))
    | 4, _ => exact va_eqt (h _ (List.mem_of_getElem? (i := 38) rfl))
    | j + 5, hj => omega) hA
  exact ⟨t, va_Zof (hts _ (tb_4 (List.mem_of_getElem? (i := 60) rfl))) (hts _ (tb_1 (List.mem_of_getElem? (i := 8) rfl))) h1 hA, h2⟩
def wa_b : List Nat := [61, 81, 193, 106, 149, 227, 213, 268, 253, 239]
abbrev wa_tm (i : Nat) : Term := .string "HandRing$Reader" (hm_sS.getD i (0, "")).1
theorem wa_t1 : ∀ i, i < 10 → wa_l[wa_b.getD i 0]? = some (Cond.exactly (wa_tm i) "java/lang/String") ∧ wa_l[wa_b.getD i 0 + 1]? = some (Cond.eq (.field (wa_tm i) "java/lang/String" "coder" "B") (.int 0)) ∧ wa_l[wa_b.getD i 0 + 2]? = some (Cond.arrayOf (.field (wa_tm i) "java/lang/String" "value" "[B") .byte) ∧ wa_l[wa_b.getD i 0 + 3]? = some (Cond.eq (.length (.field (wa_tm i) "java/lang/String" "value" "[B")) (.int (Int32.ofNat (hm_sL.getD i 0)))) := by
  intro i hi
  match i, hi with
  | 0, _ => exact ⟨rfl, rfl, rfl, rfl⟩
  | 1, _ => exact ⟨rfl, rfl, rfl, rfl⟩
  | 2, _ => exact ⟨rfl, rfl, rfl, rfl⟩
  | 3, _ => exact ⟨rfl, rfl, rfl, rfl⟩
  | 4, _ => exact ⟨rfl, rfl, rfl, rfl⟩
  | 5, _ => exact ⟨rfl, rfl, rfl, rfl⟩
  | 6, _ => exact ⟨rfl, rfl, rfl, rfl⟩
  | 7, _ => exact ⟨rfl, rfl, rfl, rfl⟩
  | 8, _ => exact ⟨rfl, rfl, rfl, rfl⟩
  | 9, _ => exact ⟨rfl, rfl, rfl, rfl⟩
  | i + 10, hi => omega
theorem wa_e0 : ∀ j, j < 16 → wa_l[65 + j]? = some (Cond.eq (.elem (.field (wa_tm 0) "java/lang/String" "value" "[B") (.int (Int32.ofNat j))) (.int ((hm_sB.getD 0 []).getD j 0))) := by
  intro j hj
  match j, hj with
  | 0, _ => rfl
  | 1, _ => rfl
  | 2, _ => rfl
  | 3, _ => rfl
  | 4, _ => rfl
  | 5, _ => rfl
  | 6, _ => rfl
  | 7, _ => rfl
  | 8, _ => rfl
  | 9, _ => rfl
  | 10, _ => rfl
  | 11, _ => rfl
  | 12, _ => rfl
  | 13, _ => rfl
  | 14, _ => rfl
  | 15, _ => rfl
  | j + 16, hj => omega
theorem wa_e1 : ∀ j, j < 20 → wa_l[85 + j]? = some (Cond.eq (.elem (.field (wa_tm 1) "java/lang/String" "value" "[B") (.int (Int32.ofNat j))) (.int ((hm_sB.getD 1 []).getD j 0))) := by
  intro j hj
  match j, hj with
  | 0, _ => rfl
  | 1, _ => rfl
  | 2, _ => rfl
  | 3, _ => rfl
  | 4, _ => rfl
  | 5, _ => rfl
  | 6, _ => rfl
  | 7, _ => rfl
  | 8, _ => rfl
  | 9, _ => rfl
  | 10, _ => rfl
  | 11, _ => rfl
  | 12, _ => rfl
  | 13, _ => rfl
  | 14, _ => rfl
  | 15, _ => rfl
  | 16, _ => rfl
  | 17, _ => rfl
  | 18, _ => rfl
  | 19, _ => rfl
  | j + 20, hj => omega
theorem wa_e2 : ∀ j, j < 12 → wa_l[197 + j]? = some (Cond.eq (.elem (.field (wa_tm 2) "java/lang/String" "value" "[B") (.int (Int32.ofNat j))) (.int ((hm_sB.getD 2 []).getD j 0))) := by
  intro j hj
  match j, hj with
  | 0, _ => rfl
  | 1, _ => rfl
  | 2, _ => rfl
  | 3, _ => rfl
  | 4, _ => rfl
  | 5, _ => rfl
  | 6, _ => rfl
  | 7, _ => rfl
  | 8, _ => rfl
  | 9, _ => rfl
  | 10, _ => rfl
  | 11, _ => rfl
  | j + 12, hj => omega
theorem wa_e3 : ∀ j, j < 37 → wa_l[110 + j]? = some (Cond.eq (.elem (.field (wa_tm 3) "java/lang/String" "value" "[B") (.int (Int32.ofNat j))) (.int ((hm_sB.getD 3 []).getD j 0))) := by
  intro j hj
  match j, hj with
  | 0, _ => rfl
  | 1, _ => rfl
  | 2, _ => rfl
  | 3, _ => rfl
  | 4, _ => rfl
  | 5, _ => rfl
  | 6, _ => rfl
  | 7, _ => rfl
  | 8, _ => rfl
  | 9, _ => rfl
  | 10, _ => rfl
  | 11, _ => rfl
  | 12, _ => rfl
  | 13, _ => rfl
  | 14, _ => rfl
  | 15, _ => rfl
  | 16, _ => rfl
  | 17, _ => rfl
  | 18, _ => rfl
  | 19, _ => rfl
  | 20, _ => rfl
  | 21, _ => rfl
  | 22, _ => rfl
  | 23, _ => rfl
  | 24, _ => rfl
  | 25, _ => rfl
  | 26, _ => rfl
  | 27, _ => rfl
  | 28, _ => rfl
  | 29, _ => rfl
  | 30, _ => rfl
  | 31, _ => rfl
  | 32, _ => rfl
  | 33, _ => rfl
  | 34, _ => rfl
  | 35, _ => rfl
  | 36, _ => rfl
  | j + 37, hj => omega
theorem wa_e4 : ∀ j, j < 37 → wa_l[153 + j]? = some (Cond.eq (.elem (.field (wa_tm 4) "java/lang/String" "value" "[B") (.int (Int32.ofNat j))) (.int ((hm_sB.getD 4 []).getD j 0))) := by
  intro j hj
  match j, hj with
  | 0, _ => rfl
  | 1, _ => rfl
  | 2, _ => rfl
  | 3, _ => rfl
  | 4, _ => rfl
  | 5, _ => rfl
  | 6, _ => rfl
  | 7, _ => rfl
  | 8, _ => rfl
  | 9, _ => rfl
  | 10, _ => rfl
  | 11, _ => rfl
  | 12, _ => rfl
  | 13, _ => rfl
  | 14, _ => rfl
  | 15, _ => rfl
  | 16, _ => rfl
  | 17, _ => rfl
  | 18, _ => rfl
  | 19, _ => rfl
  | 20, _ => rfl
  | 21, _ => rfl
  | 22, _ => rfl
  | 23, _ => rfl
  | 24, _ => rfl
  | 25, _ => rfl
  | 26, _ => rfl
  | 27, _ => rfl
  | 28, _ => rfl
  | 29, _ => rfl
  | 30, _ => rfl
  | 31, _ => rfl
  | 32, _ => rfl
  | 33, _ => rfl
  | 34, _ => rfl
  | 35, _ => rfl
  | 36, _ => rfl
  | j + 37, hj => omega
theorem wa_e5 : ∀ j, j < 2 → wa_l[231 + j]? = some (Cond.eq (.elem (.field (wa_tm 5) "java/lang/String" "value" "[B") (.int (Int32.ofNat j))) (.int ((hm_sB.getD 5 []).getD j 0))) := by
  intro j hj
  match j, hj with
  | 0, _ => rfl
  | 1, _ => rfl
  | j + 2, hj => omega
theorem wa_e6 : ∀ j, j < 5 → wa_l[217 + j]? = some (Cond.eq (.elem (.field (wa_tm 6) "java/lang/String" "value" "[B") (.int (Int32.ofNat j))) (.int ((hm_sB.getD 6 []).getD j 0))) := by
  intro j hj
  match j, hj with
  | 0, _ => rfl
  | 1, _ => rfl
  | 2, _ => rfl
  | 3, _ => rfl
  | 4, _ => rfl
  | j + 5, hj => omega
theorem wa_e7 : ∀ j, j < 2 → wa_l[272 + j]? = some (Cond.eq (.elem (.field (wa_tm 7) "java/lang/String" "value" "[B") (.int (Int32.ofNat j))) (.int ((hm_sB.getD 7 []).getD j 0))) := by
  intro j hj
  match j, hj with
  | 0, _ => rfl
  | 1, _ => rfl
  | j + 2, hj => omega
theorem wa_e8 : ∀ j, j < 3 → wa_l[257 + j]? = some (Cond.eq (.elem (.field (wa_tm 8) "java/lang/String" "value" "[B") (.int (Int32.ofNat j))) (.int ((hm_sB.getD 8 []).getD j 0))) := by
  intro j hj
  match j, hj with
  | 0, _ => rfl
  | 1, _ => rfl
  | 2, _ => rfl
  | j + 3, hj => omega
theorem wa_e9 : ∀ j, j < 3 → wa_l[243 + j]? = some (Cond.eq (.elem (.field (wa_tm 9) "java/lang/String" "value" "[B") (.int (Int32.ofNat j))) (.int ((hm_sB.getD 9 []).getD j 0))) := by
  intro j hj
  match j, hj with
  | 0, _ => rfl
  | 1, _ => rfl
  | 2, _ => rfl
  | j + 3, hj => omega
theorem wa_ne (h : ∀ w ∈ wa_l, w.before args s = true) (i j : Nat) (hi : i < 10) (hj : j < 10) (e : i ≠ j) : (Cond.not (Cond.eq (wa_tm i) (wa_tm j))).before args s = true ∨ (Cond.not (Cond.eq (wa_tm j) (wa_tm i))).before args s = true := by
  match i, j, hi, hj, e with
  | 0, 1, _, _, _ => exact Or.inl (h _ (List.mem_of_getElem? (i := 105) rfl))
  | 0, 2, _, _, _ => exact Or.inl (h _ (List.mem_of_getElem? (i := 209) rfl))
  | 0, 3, _, _, _ => exact Or.inl (h _ (List.mem_of_getElem? (i := 147) rfl))
  | 0, 4, _, _, _ => exact Or.inl (h _ (List.mem_of_getElem? (i := 190) rfl))
  | 0, 5, _, _, _ => exact Or.inl (h _ (List.mem_of_getElem? (i := 233) rfl))
  | 0, 6, _, _, _ => exact Or.inl (h _ (List.mem_of_getElem? (i := 222) rfl))
  | 0, 7, _, _, _ => exact Or.inl (h _ (List.mem_of_getElem? (i := 274) rfl))
  | 0, 8, _, _, _ => exact Or.inl (h _ (List.mem_of_getElem? (i := 260) rfl))
  | 0, 9, _, _, _ => exact Or.inl (h _ (List.mem_of_getElem? (i := 246) rfl))
  | 1, 0, _, _, _ => exact Or.inr (h _ (List.mem_of_getElem? (i := 105) rfl))
  | 1, 2, _, _, _ => exact Or.inl (h _ (List.mem_of_getElem? (i := 210) rfl))
  | 1, 3, _, _, _ => exact Or.inl (h _ (List.mem_of_getElem? (i := 148) rfl))
  | 1, 4, _, _, _ => exact Or.inl (h _ (List.mem_of_getElem? (i := 191) rfl))
  | 1, 5, _, _, _ => exact Or.inl (h _ (List.mem_of_getElem? (i := 234) rfl))
  | 1, 6, _, _, _ => exact Or.inl (h _ (List.mem_of_getElem? (i := 223) rfl))
  | 1, 7, _, _, _ => exact Or.inl (h _ (List.mem_of_getElem? (i := 275) rfl))
  | 1, 8, _, _, _ => exact Or.inl (h _ (List.mem_of_getElem? (i := 261) rfl))
  | 1, 9, _, _, _ => exact Or.inl (h _ (List.mem_of_getElem? (i := 247) rfl))
  | 2, 0, _, _, _ => exact Or.inr (h _ (List.mem_of_getElem? (i := 209) rfl))
  | 2, 1, _, _, _ => exact Or.inr (h _ (List.mem_of_getElem? (i := 210) rfl))
  | 2, 3, _, _, _ => exact Or.inr (h _ (List.mem_of_getElem? (i := 211) rfl))
  | 2, 4, _, _, _ => exact Or.inr (h _ (List.mem_of_getElem? (i := 212) rfl))
  | 2, 5, _, _, _ => exact Or.inl (h _ (List.mem_of_getElem? (i := 237) rfl))
  | 2, 6, _, _, _ => exact Or.inl (h _ (List.mem_of_getElem? (i := 226) rfl))
  | 2, 7, _, _, _ => exact Or.inl (h _ (List.mem_of_getElem? (i := 278) rfl))
  | 2, 8, _, _, _ => exact Or.inl (h _ (List.mem_of_getElem? (i := 264) rfl))
  | 2, 9, _, _, _ => exact Or.inl (h _ (List.mem_of_getElem? (i := 250) rfl))
  | 3, 0, _, _, _ => exact Or.inr (h _ (List.mem_of_getElem? (i := 147) rfl))
  | 3, 1, _, _, _ => exact Or.inr (h _ (List.mem_of_getElem? (i := 148) rfl))
  | 3, 2, _, _, _ => exact Or.inl (h _ (List.mem_of_getElem? (i := 211) rfl))
  | 3, 4, _, _, _ => exact Or.inl (h _ (List.mem_of_getElem? (i := 192) rfl))
  | 3, 5, _, _, _ => exact Or.inl (h _ (List.mem_of_getElem? (i := 235) rfl))
  | 3, 6, _, _, _ => exact Or.inl (h _ (List.mem_of_getElem? (i := 224) rfl))
  | 3, 7, _, _, _ => exact Or.inl (h _ (List.mem_of_getElem? (i := 276) rfl))
  | 3, 8, _, _, _ => exact Or.inl (h _ (List.mem_of_getElem? (i := 262) rfl))
  | 3, 9, _, _, _ => exact Or.inl (h _ (List.mem_of_getElem? (i := 248) rfl))
  | 4, 0, _, _, _ => exact Or.inr (h _ (List.mem_of_getElem? (i := 190) rfl))
  | 4, 1, _, _, _ => exact Or.inr (h _ (List.mem_of_getElem? (i := 191) rfl))
  | 4, 2, _, _, _ => exact Or.inl (h _ (List.mem_of_getElem? (i := 212) rfl))
  | 4, 3, _, _, _ => exact Or.inr (h _ (List.mem_of_getElem? (i := 192) rfl))
  | 4, 5, _, _, _ => exact Or.inl (h _ (List.mem_of_getElem? (i := 236) rfl))
  | 4, 6, _, _, _ => exact Or.inl (h _ (List.mem_of_getElem? (i := 225) rfl))
  | 4, 7, _, _, _ => exact Or.inl (h _ (List.mem_of_getElem? (i := 277) rfl))
  | 4, 8, _, _, _ => exact Or.inl (h _ (List.mem_of_getElem? (i := 263) rfl))
  | 4, 9, _, _, _ => exact Or.inl (h _ (List.mem_of_getElem? (i := 249) rfl))
  | 5, 0, _, _, _ => exact Or.inr (h _ (List.mem_of_getElem? (i := 233) rfl))
  | 5, 1, _, _, _ => exact Or.inr (h _ (List.mem_of_getElem? (i := 234) rfl))
  | 5, 2, _, _, _ => exact Or.inr (h _ (List.mem_of_getElem? (i := 237) rfl))
  | 5, 3, _, _, _ => exact Or.inr (h _ (List.mem_of_getElem? (i := 235) rfl))
  | 5, 4, _, _, _ => exact Or.inr (h _ (List.mem_of_getElem? (i := 236) rfl))
  | 5, 6, _, _, _ => exact Or.inr (h _ (List.mem_of_getElem? (i := 238) rfl))
  | 5, 7, _, _, _ => exact Or.inl (h _ (List.mem_of_getElem? (i := 280) rfl))
  | 5, 8, _, _, _ => exact Or.inl (h _ (List.mem_of_getElem? (i := 266) rfl))
  | 5, 9, _, _, _ => exact Or.inl (h _ (List.mem_of_getElem? (i := 252) rfl))
  | 6, 0, _, _, _ => exact Or.inr (h _ (List.mem_of_getElem? (i := 222) rfl))
  | 6, 1, _, _, _ => exact Or.inr (h _ (List.mem_of_getElem? (i := 223) rfl))
  | 6, 2, _, _, _ => exact Or.inr (h _ (List.mem_of_getElem? (i := 226) rfl))
  | 6, 3, _, _, _ => exact Or.inr (h _ (List.mem_of_getElem? (i := 224) rfl))
  | 6, 4, _, _, _ => exact Or.inr (h _ (List.mem_of_getElem? (i := 225) rfl))
  | 6, 5, _, _, _ => exact Or.inl (h _ (List.mem_of_getElem? (i := 238) rfl))
  | 6, 7, _, _, _ => exact Or.inl (h _ (List.mem_of_getElem? (i := 279) rfl))
  | 6, 8, _, _, _ => exact Or.inl (h _ (List.mem_of_getElem? (i := 265) rfl))
  | 6, 9, _, _, _ => exact Or.inl (h _ (List.mem_of_getElem? (i := 251) rfl))
  | 7, 0, _, _, _ => exact Or.inr (h _ (List.mem_of_getElem? (i := 274) rfl))
  | 7, 1, _, _, _ => exact Or.inr (h _ (List.mem_of_getElem? (i := 275) rfl))
  | 7, 2, _, _, _ => exact Or.inr (h _ (List.mem_of_getElem? (i := 278) rfl))
  | 7, 3, _, _, _ => exact Or.inr (h _ (List.mem_of_getElem? (i := 276) rfl))
  | 7, 4, _, _, _ => exact Or.inr (h _ (List.mem_of_getElem? (i := 277) rfl))
  | 7, 5, _, _, _ => exact Or.inr (h _ (List.mem_of_getElem? (i := 280) rfl))
  | 7, 6, _, _, _ => exact Or.inr (h _ (List.mem_of_getElem? (i := 279) rfl))
  | 7, 8, _, _, _ => exact Or.inr (h _ (List.mem_of_getElem? (i := 282) rfl))
  | 7, 9, _, _, _ => exact Or.inr (h _ (List.mem_of_getElem? (i := 281) rfl))
  | 8, 0, _, _, _ => exact Or.inr (h _ (List.mem_of_getElem? (i := 260) rfl))
  | 8, 1, _, _, _ => exact Or.inr (h _ (List.mem_of_getElem? (i := 261) rfl))
  | 8, 2, _, _, _ => exact Or.inr (h _ (List.mem_of_getElem? (i := 264) rfl))
  | 8, 3, _, _, _ => exact Or.inr (h _ (List.mem_of_getElem? (i := 262) rfl))
  | 8, 4, _, _, _ => exact Or.inr (h _ (List.mem_of_getElem? (i := 263) rfl))
  | 8, 5, _, _, _ => exact Or.inr (h _ (List.mem_of_getElem? (i := 266) rfl))
  | 8, 6, _, _, _ => exact Or.inr (h _ (List.mem_of_getElem? (i := 265) rfl))
  | 8, 7, _, _, _ => exact Or.inl (h _ (List.mem_of_getElem? (i := 282) rfl))
  | 8, 9, _, _, _ => exact Or.inr (h _ (List.mem_of_getElem? (i := 267) rfl))
  | 9, 0, _, _, _ => exact Or.inr (h _ (List.mem_of_getElem? (i := 246) rfl))
  | 9, 1, _, _, _ => exact Or.inr (h _ (List.mem_of_getElem? (i := 247) rfl))
  | 9, 2, _, _, _ => exact Or.inr (h _ (List.mem_of_getElem? (i := 250) rfl))
  | 9, 3, _, _, _ => exact Or.inr (h _ (List.mem_of_getElem? (i := 248) rfl))
  | 9, 4, _, _, _ => exact Or.inr (h _ (List.mem_of_getElem? (i := 249) rfl))
  | 9, 5, _, _, _ => exact Or.inr (h _ (List.mem_of_getElem? (i := 252) rfl))
  | 9, 6, _, _, _ => exact Or.inr (h _ (List.mem_of_getElem? (i := 251) rfl))
  | 9, 7, _, _, _ => exact Or.inl (h _ (List.mem_of_getElem? (i := 281) rfl))
  | 9, 8, _, _, _ => exact Or.inl (h _ (List.mem_of_getElem? (i := 267) rfl))
  | 0, 0, _, _, e | 1, 1, _, _, e | 2, 2, _, _, e | 3, 3, _, _, e | 4, 4, _, _, e | 5, 5, _, _, e | 6, 6, _, _, e | 7, 7, _, _, e | 8, 8, _, _, e | 9, 9, _, _, e => exact absurd rfl e
  | i + 10, _, hi, _, _ => omega
  | _, j + 10, _, hj, _ => omega
theorem wa_S {A : Nat → Prop} (hts : ∀ w ∈ lw_tbl, w.before args s = true) (h : ∀ w ∈ wa_l, w.before args s = true) (hA : ∀ a : Nat, a < s.heap.size → ¬ A a) : ∃ adK adV : Nat → Nat, vk_S 10 hm_sL hm_sB adK adV A s s.heap ∧ ∀ (i : Nat) (q : Nat × String), hm_sS[i]? = some q → vk_R "HandRing$Reader" q.1 q.2 (adK i) s := by
  obtain ⟨adK, adV, hS, hev⟩ := vk_Sof (args := args) (s := s) (N := 10) (tm := wa_tm) (len := hm_sL) (byt := hm_sB) (A := A) (by decide) (fun i hi => h _ (List.mem_of_getElem? (wa_t1 i hi).1)) (fun i hi => h _ (List.mem_of_getElem? (wa_t1 i hi).2.1)) (fun i hi => h _ (List.mem_of_getElem? (wa_t1 i hi).2.2.1)) (fun i hi => h _ (List.mem_of_getElem? (wa_t1 i hi).2.2.2)) (fun i hi j hj => by
    match i, hi with
    | 0, _ => exact h _ (List.mem_of_getElem? (wa_e0 j hj))
    | 1, _ => exact h _ (List.mem_of_getElem? (wa_e1 j hj))
    | 2, _ => exact h _ (List.mem_of_getElem? (wa_e2 j hj))
    | 3, _ => exact h _ (List.mem_of_getElem? (wa_e3 j hj))
    | 4, _ => exact h _ (List.mem_of_getElem? (wa_e4 j hj))
    | 5, _ => exact h _ (List.mem_of_getElem? (wa_e5 j hj))
    | 6, _ => exact h _ (List.mem_of_getElem? (wa_e6 j hj))
    | 7, _ => exact h _ (List.mem_of_getElem? (wa_e7 j hj))
    | 8, _ => exact h _ (List.mem_of_getElem? (wa_e8 j hj))
    | 9, _ => exact h _ (List.mem_of_getElem? (wa_e9 j hj))
    | i + 10, hi => omega) (wa_ne h) hA
  refine ⟨adK, adV, hS, fun i q hq => ?_⟩
  match i, q, hq with
    | 0, q, hq => cases hq; exact vk_R.of (hts _ (tb_3 (List.mem_of_getElem? (i := 62) rfl))) (hev 0 (by decide))
    | 1, q, hq => cases hq; exact vk_R.of (hts _ (tb_3 (List.mem_of_getElem? (i := 63) rfl))) (hev 1 (by decide))
    | 2, q, hq => cases hq; exact vk_R.of (hts _ (tb_3 (List.mem_of_getElem? (i := 166) rfl))) (hev 2 (by decide))
    | 3, q, hq => cases hq; exact vk_R.of (hts _ (tb_3 (List.mem_of_getElem? (i := 156) rfl))) (hev 3 (by decide))
    | 4, q, hq => cases hq; exact vk_R.of (hts _ (tb_3 (List.mem_of_getElem? (i := 157) rfl))) (hev 4 (by decide))
    | 5, q, hq => cases hq; exact vk_R.of (hts _ (tb_3 (List.mem_of_getElem? (i := 176) rfl))) (hev 5 (by decide))
    | 6, q, hq => cases hq; exact vk_R.of (hts _ (tb_3 (List.mem_of_getElem? (i := 171) rfl))) (hev 6 (by decide))
    | 7, q, hq => cases hq; exact vk_R.of (hts _ (tb_3 (List.mem_of_getElem? (i := 199) rfl))) (hev 7 (by decide))
    | 8, q, hq => cases hq; exact vk_R.of (hts _ (tb_3 (List.mem_of_getElem? (i := 194) rfl))) (hev 8 (by decide))
    | 9, q, hq => cases hq; exact vk_R.of (hts _ (tb_3 (List.mem_of_getElem? (i := 189) rfl))) (hev 9 (by decide))
    | i + 10, q, hq => cases hq
theorem wa_start {b L : Nat} {xs : Nat → Int32} {p : Program} {m : MethodId} {meth : Method} {c : Code} (C0 : lw_At p s m meth c b L xs) : ∃ g : hm_G, g.2.2.2 = s.heap.size ∧ va_K g.1 vwCl (hm_tys g) s ∧ hm_E g s := by
  have hts := C0.2.2.2.2.2.1
  have h : ∀ w ∈ wa_l, w.before #[Value.ref b] s = true := flat_of_before _ C0.2.2.2.2.2.2.2.2.2
  have hA : ∀ a : Nat, a < s.heap.size → ¬ (fun q : Nat => s.heap.size ≤ q) a := fun a ha => Nat.not_le.mpr ha
  obtain ⟨D, hD⟩ := wa_classes hts
  obtain ⟨E, hE⟩ := wa_types hts
  obtain ⟨t0, z0, y0⟩ := wa_s0 hts h hA
  obtain ⟨t1, z1, y1⟩ := wa_s1 hts h hA
  obtain ⟨t2, z2, y2⟩ := wa_s2 hts h hA
  obtain ⟨t3, z3, y3⟩ := wa_s3 hts h hA
  obtain ⟨adK, adV, hS, hR⟩ := wa_S hts h hA
  have hcs := va_Zof (v := .int 1) (hts _ (tb_3 (List.mem_of_getElem? (i := 77) rfl))) (hts _ (tb_1 (List.mem_of_getElem? (i := 14) rfl))) (va_eqt (h _ (List.mem_of_getElem? (i := 18) rfl))) hA
  obtain ⟨fv, hf1, hf2⟩ := Cond.isRef_spec (show (Cond.isRef _).before _ s = true from h _ (List.mem_of_getElem? (i := 19) rfl))
  have hfz := va_Zof (hts _ (tb_3 (List.mem_of_getElem? (i := 93) rfl))) (hts _ (tb_1 (List.mem_of_getElem? (i := 16) rfl))) hf1 hA
  let fa : Nat := match fv with
    | .ref a => a
    | _ => 0
  let ad : Nat → Nat := fun n => match n with
    | 0 => t0
    | 1 => t1
    | 2 => t2
    | 3 => t3
    | 40 => fa
    | n => if n < 20 then adK (n - 4) else adV (n - 20)
  have e4 : ∀ i, i < 10 → ad (4 + i) = adK i := by
    intro i hi
    match i, hi with
    | 0, _ | 1, _ | 2, _ | 3, _ | 4, _ | 5, _ | 6, _ | 7, _ | 8, _ | 9, _ => rfl
    | i + 10, hi => omega
  have e20 : ∀ i, i < 10 → ad (20 + i) = adV i := by
    intro i hi
    match i, hi with
    | 0, _ | 1, _ | 2, _ | 3, _ | 4, _ | 5, _ | 6, _ | 7, _ | 8, _ | 9, _ => rfl
    | i + 10, hi => omega
  refine ⟨((fun k => (D k).1, fun k => (D k).2), E, ad, s.heap.size), rfl, ⟨fun k q hq => hD k q hq, fun k q hq => ?_⟩, ⟨fun i q hq => ?_, ⟨⟨fun i hi => ?_, fun i j hi hj e => ?_⟩, fun i q hq => ?_, hcs, ?_⟩, fun i q hq => ?_, fun i q hq => ?_, va_AO.of (hts _ (tb_1 (List.mem_of_getElem? (i := 36) rfl))), va_AO.of (hts _ (tb_1 (List.mem_of_getElem? (i := 114) rfl))), (show (Cond.arrayOver (.array .int)).before #[] s = true from (hts _ (tb_1 (List.mem_of_getElem? (i := 122) rfl))))⟩⟩
  · match k, q, hq with
    | 0, q, hq | 1, q, hq | 2, q, hq | 3, q, hq | 4, q, hq | 5, q, hq | 6, q, hq | 7, q, hq => cases hq; exact hE _ _ rfl
    | k + 8, q, hq => cases hq
  · match i, q, hq with
    | 0, q, hq => cases hq; exact ⟨z0, y0⟩
    | 1, q, hq => cases hq; exact ⟨z1, y1⟩
    | 2, q, hq => cases hq; exact ⟨z2, y2⟩
    | 3, q, hq => cases hq; exact ⟨z3, y3⟩
    | i + 4, q, hq => cases hq
  · have := hS.1 i hi
    show va_O "java/lang/String" (ad (4 + i)) _ s s.heap ∧ va_OF "java/lang/String" "coder" "B" (.int 0) (ad (4 + i)) _ s s.heap ∧ va_OF "java/lang/String" "value" "[B" (.ref (ad (20 + i))) (ad (4 + i)) _ s s.heap ∧ va_T .byte (ad (20 + i)) _ _ _ s s.heap
    rw [e4 i hi, e20 i hi]
    exact this
  · exact hS.2 i j hi hj (by rw [← e4 i hi, ← e4 j hj]; exact e)
  · have hi : i < 10 := (List.getElem?_eq_some_iff.mp hq).1
    show vk_R "HandRing$Reader" q.1 q.2 (ad (4 + i)) s
    rw [e4 i hi]
    exact hR i q hq
  · show va_Z _ _ _ .null _ s s.heap ∨ va_Z _ _ _ (.ref fa) _ s s.heap
    cases fv with
    | ref a => exact Or.inr hfz
    | null => exact Or.inl hfz
    | _ => cases hf2
  · match i, q, hq with
    | 0, q, hq => cases hq; exact va_Nw.of rfl (hts _ (tb_1 (List.mem_of_getElem? (i := 37) rfl)))
    | 1, q, hq => cases hq; exact va_Nw.of rfl (hts _ (tb_4 (List.mem_of_getElem? (i := 69) rfl)))
    | i + 2, q, hq => cases hq
  · match i, q, hq with
    | 0, q, hq => cases hq; exact va_Nw.of rfl (hts _ (tb_1 (List.mem_of_getElem? (i := 117) rfl)))
    | 1, q, hq => cases hq; exact va_Nw.of rfl (hts _ (tb_1 (List.mem_of_getElem? (i := 137) rfl)))
    | 2, q, hq => cases hq; exact va_Nw.of rfl (hts _ (tb_1 (List.mem_of_getElem? (i := 192) rfl)))
    | 3, q, hq => cases hq; exact va_Nw.of rfl (hts _ (tb_2 (List.mem_of_getElem? (i := 7) rfl)))
    | i + 4, q, hq => cases hq
end WAS
