/-! The law's own body: calls, what is read off the script, the loop. -/
def lw_C (g : hm_G) (p : Program) (s : State) (m : MethodId) (meth : Method) (c : Code) (b L : Nat) (xs : Nat → Int32) : Prop := lw_At p s m meth c b L xs ∧ g.2.2.2 = s.heap.size ∧ va_K g.1 vwCl (hm_tys g) s ∧ hm_E g s
theorem lj_nat {n : Nat} (h : n < 2147483648) : (Int32.ofNat n).toInt = n ∧ (Int32.ofNat n).toNatClampNeg = n ∧ ¬ Int32.ofNat n < 0 := by
  have e : (Int32.ofNat n).toInt = n := Int32.toInt_ofNat_of_lt h
  refine ⟨e, ?_, ?_⟩
  · show (Int32.ofNat n).toInt.toNat = n
    rw [e]; rfl
  · rw [Int32.lt_iff_toInt_lt, e]
    show ¬ (n : Int) < 0
    omega
section LWC
variable {p : Program} {l : Launch} {e : Env} {s : State} {m : MethodId} {below : List Frame} {meth : Method} {c : Code} {b L : Nat} {xs : Nat → Int32} {g : hm_G} {H : Heap} {locs : List Loc} {cells slots : Nat} {Q : State → Prop} {d1 : hm_D} {Λ1 : hm_M → Prop} {fr1 kc ks : Nat} {r1 : Option Value} {μ μ1 : hm_M} {pc pc' : Nat} {ls : Array Slot} {st st0 : List Value}
theorem lw_hts (C : lw_C g p s m meth c b L xs) : ∀ w ∈ hm_tb, w.before #[Value.ref b] s = true := fun w hw => C.1.2.2.2.2.2.1 w (List.mem_filter.mp hw).1
theorem lw_preU (C : lw_C g p s m meth c b L xs) (w : hm_W g μ H) (S : va_S (hm_A g) s.heap H locs) {av : List Value} (U : State) (hU : U.heap = H) (hW : s.WarmedH U.vm) : hm_Pre g av μ ((av.map (hm_cv g)).toArray) U :=
  ⟨rfl, by rw [hU]; exact w, va_K.moved hW.alike C.2.2.1, C.2.2.2.to S hU hW⟩
theorem lw_run (hrun : va_Run p l e room_1 s m #[Value.ref b] below meth c H locs cells slots kc ks (F0 m pc ls st0) st (hm_Qx g r1 μ1 #[]) (hm_A g)) (S : va_S (hm_A g) s.heap H locs)
    (K : ∀ (H1 : Heap) (locs1 : List Loc), hm_W g μ1 H1 → va_S (hm_A g) s.heap H1 locs1 → W p l e room_1 s m #[Value.ref b] below meth c H1 locs1 (cells + kc) (slots + ks) Q (F0 m (pc + 3) ls ((r1.map (hm_cv g)).toList ++ st))) : W p l e room_1 s m #[Value.ref b] below meth c H locs cells slots Q (F0 m pc ls st0) := by
  intro T hT X
  obtain ⟨v, st₀, t, T', L', g0, X', hL, e1, e2, ⟨hv, hw, hf⟩, step⟩ := hrun T hT X
  have hv2 : v = r1.map (hm_cv g) := by cases hv; rfl
  have hz : H.size ≤ T'.heap.size := by rw [e1, ← g0]; exact hf.1
  have hk2 : ∀ q : Nat, q < H.size → ¬ hm_A g q → T'.heap[q]? = H[q]? := fun q q1 q2 => by rw [e1, ← g0]; exact hf.2 q (by rw [g0]; exact q1) q2
  have S' : va_S (hm_A g) s.heap T'.heap (locs ++ L') := ⟨Nat.le_trans S.1 hz, fun q q1 q2 => by rw [hk2 q (Nat.lt_of_lt_of_le q1 S.1) q2]; exact S.2.1 q q1 q2, fun q hq => by
    rcases List.mem_append.mp hq with z | z
    · exact S.2.2 q z
    · exact hL q z⟩
  obtain ⟨t2, a1, b1⟩ := K T'.heap (locs ++ L') (by rw [e1]; exact hw) S' T' rfl X'
  refine ⟨t2, step t2 ?_, b1⟩
  rw [hv2]
  exact a1
theorem lw_callV {a ix ci n : Nat} {As : List Value} {q0 : vw_C} (C : lw_C g p s m meth c b L xs) (w : hm_W g μ H) (S : va_S (hm_A g) s.heap H locs) (hz : ls.size = 4) (ok : hm_okV d1 n) (hlk : Cond.methodLink R_law ix d1.1 ∈ hm_tb) (hd : decode code pc = .ok (.invokevirtual ix, 3)) (hq0 : vwCl[ci]? = some q0) (hq1 : q0.1 = d1.1.cls) (hci : ci < 11) (ha : hm_at μ a ci) (hn : As.length = n) (hst : (As.map (hm_cv g)).reverse ++ .ref (hm_ra g a) :: st = st0) (hcat : (st.map fun v => v.category).sum ≤ 8) (hfr : fr1 ≤ 2000) (hk : cells + kc ≤ 600000) (hs : slots + ks ≤ 7302250) (hc : hm_CC Λ1 d1 fr1 kc ks (.ref a :: As) μ r1 μ1)
    (K : ∀ (H1 : Heap) (locs1 : List Loc), hm_W g μ1 H1 → va_S (hm_A g) s.heap H1 locs1 → W p l e room_1 s m #[Value.ref b] below meth c H1 locs1 (cells + kc) (slots + ks) Q (F0 m (pc + 3) ls ((r1.map (hm_cv g)).toList ++ st))) : W p l e room_1 s m #[Value.ref b] below meth c H locs cells slots Q (F0 m pc ls st0) := by
  subst hst
  obtain ⟨o1, o2, o3, o4, o5, o6, o7⟩ := ok
  have he := w.2.2 a ha.1 ha.2.1
  rw [hm_en_obj ha.2.2 hci] at he
  obtain ⟨r', hr', cellV, g1, g2, g3, -⟩ := he
  have hcls := (C.2.2.1.1 ci q0 hq0).2
  have hts := lw_hts C
  have hG : GoodIn hm_tb (wsV R_law ix d1.1.cls d1.1 (hm_ws d1)) := by
    intro w hw
    rcases List.mem_append.mp hw with z | z
    · simp only [List.mem_cons, List.not_mem_nil, or_false] at z
      rcases z with rfl | rfl | rfl | rfl
      · exact hm_good _ hlk
      · exact hm_good _ o2
      · exact hm_good _ o3
      · exact hm_good _ o4
    · exact hm_gws o1 w z
  refine lw_run (va_runV (own := R_law) (C := d1.1.cls) (b := hm_ra g a) (As := As.map (hm_cv g)) (Pc := hm_Pre g (.ref a :: As) μ) (n := n) (nL := 4) (cc := code) (Ts := hm_tb) (bytes := d1.2.1) (maxL := d1.2.2.1) (ret := d1.2.2.2) (index := ix) ⟨C.1.1, C.1.2.1, C.1.2.2.2.1, C.1.2.2.2.2.1, hts⟩ (hc.2 l g) (cwV n hts hG rfl rfl rfl ⟨rfl, o5.1, o5.2, o6⟩ ⟨?_, ?_⟩) ⟨hm_blind g _ μ, ⟨cellV, g1, by rw [g3]; rfl, by rw [g2, ← hq1]; exact hcls.1⟩, fun U hU hW => ?_⟩ rfl (by rw [List.length_map]; exact hn) hz rfl (lv_room hcat) hd ⟨hk, hs⟩) S K
  · show fr1 + 1 ≤ 2048
    omega
  · show 8 + (d1.2.2.1 + 11) + 40 * fr1 ≤ 84000
    omega
  · have := lw_preU C w S (av := .ref a :: As) U hU hW
    rw [List.map_cons] at this
    show hm_Pre g (.ref a :: As) μ (Value.ref (hm_ra g a) :: As.map (hm_cv g)).toArray U
    rw [← hm_ad_hi (g := g) ha.1]
    exact this
theorem lw_callI {a ix : Nat} (C : lw_C g p s m meth c b L xs) (w : hm_W g μ H) (S : va_S (hm_A g) s.heap H locs) (hz : ls.size = 4) (ok : hm_okI d1 0) (hlk : Cond.methodLink R_law ix d1.1 ∈ hm_tb) (hd : decode code pc = .ok (.invokespecial ix, 3)) (ha : 64 ≤ a) (hcat : (st.map fun v => v.category).sum ≤ 8) (hfr : fr1 ≤ 2000) (hk : cells + kc ≤ 600000) (hs : slots + ks ≤ 7302250) (hc : hm_CC Λ1 d1 fr1 kc ks [.ref a] μ none μ1)
    (K : ∀ (H1 : Heap) (locs1 : List Loc), hm_W g μ1 H1 → va_S (hm_A g) s.heap H1 locs1 → W p l e room_1 s m #[Value.ref b] below meth c H1 locs1 (cells + kc) (slots + ks) Q (F0 m (pc + 3) ls st)) : W p l e room_1 s m #[Value.ref b] below meth c H locs cells slots Q (F0 m pc ls (.ref (hm_ra g a) :: st)) := by
  obtain ⟨o1, o2, o4, o5, o6, o7, o8, o9⟩ := ok
  have hts := lw_hts C
  have hG : GoodIn hm_tb (hm_ws d1) := hm_gws (by rw [o9]; exact o1)
  refine lw_run (r1 := none) (va_runI (own := R_law) (b := hm_ra g a) (As := []) (Pc := hm_Pre g [.ref a] μ) (n := 0) (nL := 4) (cc := code) (Ts := hm_tb) (bytes := d1.2.1) (maxL := d1.2.2.1) (index := ix) ⟨C.1.1, C.1.2.1, C.1.2.2.2.1, C.1.2.2.2.2.1, hts⟩ (hc.2 l g) (cwI 0 hts hG (by unfold hm_ws; rw [o9]) rfl rfl (hts _ o4) (hts _ hlk) (hts _ o2) o8 ⟨o5.1, o5.2, o6⟩ ⟨?_, ?_⟩) ⟨hm_blind g _ μ, fun U hU hW => ?_⟩ rfl rfl hz rfl (lv_room hcat) hd ⟨hk, hs⟩) S K
  · show fr1 + 1 ≤ 2048
    omega
  · show 8 + (d1.2.2.1 + 11) + 40 * fr1 ≤ 84000
    omega
  · have := lw_preU C w S (av := [.ref a]) U hU hW
    show hm_Pre g [.ref a] μ [Value.ref (hm_ra g a)].toArray U
    rw [← hm_ad_hi (g := g) ha]
    exact this
theorem lw_new {n ix ci N : Nat} {CC : String} {T : u_T} (C : lw_C g p s m meth c b L xs) (w : hm_W g μ H) (S : va_S (hm_A g) s.heap H locs) (hN : hm_nx μ = n) (hKl : hm_Kl ci (CC, T, N)) (ty : Nat → FieldType) (hty : ∀ k, k < N → parseFieldDescriptor (T k).2.2.1 = some (ty k)) (hdf : ∀ j, j < N → defaultValue (ty j) = vp_V ((hm_fT ci).map (fun b => if b = true then Value.null else .int 0)) j) (h1 : Cond.classLink R_law ix CC ∈ hm_tb) (h2 : Cond.instantiable CC N ∈ hm_tb) (h3 : Cond.initialized CC ∈ hm_tb) (hd : decode code pc = .ok (.new ix, 3)) (hk : cells + 1 ≤ 600000) (hs : slots + N ≤ 7302250)
    (K : ∀ (H1 : Heap), hm_W g (hm_al μ ci N) H1 → va_S (hm_A g) s.heap H1 locs → W p l e room_1 s m #[Value.ref b] below meth c H1 locs (cells + 1) (slots + N) Q (F0 m (pc + 3) ls (.ref (hm_ra g n) :: st))) : W p l e room_1 s m #[Value.ref b] below meth c H locs cells slots Q (F0 m pc ls st) := by
  subst hN
  obtain ⟨hc, hlt, hin, hN, -, -⟩ := hKl
  have hts := lw_hts C
  have hKn := C.2.2.1.1 ci _ hc
  refine W.newcK C.1.1 C.1.2.1 C.1.2.2.2.2.1 (hts _ h1) (hts _ h2) (hts _ h3) rfl hd hk hs hKn.2.1 rfl fun H1 kC hkC e1 z1 o1 => ?_
  have he : va_at g.1 vwCl (H.size, hm_en g (hm_al μ ci N) (hm_nx μ)) H1 := by
    rw [hm_en_obj (show hm_kd (hm_al μ ci N) (hm_nx μ) = ci from if_pos rfl) hlt, hm_fv_al]
    exact ⟨_, hc, (u_born ty hts hin hKn hkC e1 hty).to hdf⟩
  have hw1 := w.alloc z1 o1 he
  have kk := K H1 hw1 ⟨Nat.le_trans S.1 (by omega), fun q g1 g2 => by rw [o1 q (Nat.lt_of_lt_of_le g1 S.1)]; exact S.2.1 q g1 g2, S.2.2⟩
  rw [← w.2.1] at kk
  exact kk
end LWC
/-! In the loop. -/
def lj (g : hm_G) (p : Program) (l : Launch) (e : Env) (s : State) (m : MethodId) (below : List Frame) (meth : Method) (c : Code) (b : Nat) (i : Int32) (pc : Nat) (st : List Value) (μ : hm_M) (cells slots : Nat) : Prop :=
  ∀ (H : Heap) (locs : List Loc) (ls : Array Slot), hm_W g μ H → va_S (hm_A g) s.heap H locs → lv_has ls 4 [(3, .int i), (2, .ref (hm_ra g 179)), (1, .ref (hm_ra g 64)), (0, .ref b)] → W p l e room_1 s m #[Value.ref b] below meth c H locs cells slots (lw_Z below #[Value.ref b] s) (F0 m pc ls st)
section LJ
variable {p : Program} {l : Launch} {e : Env} {s : State} {m : MethodId} {below : List Frame} {meth : Method} {c : Code} {b L : Nat} {xs : Nat → Int32} {g : hm_G} {cells slots : Nat} {d1 : hm_D} {Λ1 : hm_M → Prop} {fr1 kc ks : Nat} {r1 : Option Value} {μ μ1 : hm_M} {pc pc' : Nat} {st st0 : List Value} {i : Int32}
theorem lj_w {k n : Nat} (h1 : cells ≤ k) (h2 : slots ≤ n) (K : lj g p l e s m below meth c b i pc st μ k n) : lj g p l e s m below meth c b i pc st μ cells slots := fun H locs ls w S hl => W.widen h1 h2 (K H locs ls w S hl)
theorem lj_x (C : lw_C g p s m meth c b L xs) (hd : decode code pc = .ok (.aload_n 1, 1)) (hp : pc + 1 = pc') (K : lj g p l e s m below meth c b i pc' (.ref (hm_ra g 64) :: st) μ cells slots) : lj g p l e s m below meth c b i pc st μ cells slots := by
  subst hp
  exact fun H locs ls w S hl => lv_aload_n C.1.1 C.1.2.1 hd rfl (lv_at hl 2 rfl) (K H locs ls w S hl)
theorem lj_m (C : lw_C g p s m meth c b L xs) (hd : decode code pc = .ok (.aload_n 2, 1)) (hp : pc + 1 = pc') (K : lj g p l e s m below meth c b i pc' (.ref (hm_ra g 179) :: st) μ cells slots) : lj g p l e s m below meth c b i pc st μ cells slots := by
  subst hp
  exact fun H locs ls w S hl => lv_aload_n C.1.1 C.1.2.1 hd rfl (lv_at hl 1 rfl) (K H locs ls w S hl)
theorem lj_bA (C : lw_C g p s m meth c b L xs) : ¬ hm_A g b := by
  have := C.1.2.2.2.2.2.2.2.1
  show ¬ g.2.2.2 ≤ b
  rw [C.2.1]
  omega
theorem lj_arg {j k : Nat} {k0 : Int} (C : lw_C g p s m meth c b L xs) (hL : L ≤ 3072) (hjk : j + k < L) (hk : Int32.ofInt k0 = Int32.ofNat k) (h0 : decode code pc = .ok (.aload_n 0, 1)) (h1 : decode code (pc + 1) = .ok (.iload_n 3, 1)) (h2 : decode code (pc + 1 + 1) = .ok (.iconst k0, 1)) (h3 : decode code (pc + 1 + 1 + 1) = .ok (.iadd, 1)) (h4 : decode code (pc + 1 + 1 + 1 + 1) = .ok (.iaload, 1)) (hp : pc + 5 = pc') (K : lj g p l e s m below meth c b (Int32.ofNat j) pc' (.int (xs (j + k)) :: st) μ cells slots) : lj g p l e s m below meth c b (Int32.ofNat j) pc st μ cells slots := by
  subst hp
  intro H locs ls w S hl
  have hx := C.1.1
  have hb := C.1.2.1
  refine lv_aload_n hx hb h0 rfl (lv_at hl 3 rfl) ?_
  refine lv_iload_n hx hb h1 rfl (lv_at hl 0 rfl) ?_
  refine lv_iconst hx hb h2 hk ?_
  refine lv_iadd hx hb h3 ?_
  have e1 : Int32.ofNat j + Int32.ofNat k = Int32.ofNat (j + k) := (Int32.ofNat_add j k).symm
  have e2 := lj_nat (n := j + k) (by omega)
  rw [e1]
  refine va_sld hx hb C.1.2.2.2.2.2.2.1 C.1.2.2.2.2.2.2.2.1 (lj_bA C) S (show vp_in (Int32.ofNat (j + k)) L from fun z => ?_) h4 ?_
  · rcases z with z | z
    · exact e2.2.2 z
    · rw [e2.2.1] at z
      omega
  · rw [e2.2.1]
    exact K H locs ls w S hl
theorem lj_call {a ix ci n : Nat} {As : List Value} {q0 : vw_C} (C : lw_C g p s m meth c b L xs) (ok : hm_okV d1 n) (hlk : Cond.methodLink R_law ix d1.1 ∈ hm_tb) (hd : decode code pc = .ok (.invokevirtual ix, 3)) (hp : pc + 3 = pc') (hq0 : vwCl[ci]? = some q0) (hq1 : q0.1 = d1.1.cls) (hci : ci < 11) (ha : hm_at μ a ci) (hn : As.length = n) (hst : (As.map (hm_cv g)).reverse ++ .ref (hm_ra g a) :: st = st0) (hcat : (st.map fun v => v.category).sum ≤ 8) (hfr : fr1 ≤ 2000) (hk : cells + kc ≤ 600000) (hs : slots + ks ≤ 7302250) (hc : hm_CC Λ1 d1 fr1 kc ks (.ref a :: As) μ r1 μ1)
    (K : lj g p l e s m below meth c b i pc' ((r1.map (hm_cv g)).toList ++ st) μ1 (cells + kc) (slots + ks)) : lj g p l e s m below meth c b i pc st0 μ cells slots := by
  subst hp
  exact fun H locs ls w S hl => lw_callV C w S hl.1 ok hlk hd hq0 hq1 hci ha hn hst hcat hfr hk hs hc fun H1 locs1 w1 S1 => K H1 locs1 ls w1 S1 hl
theorem lj_eq {x : Int32} {off : Int} (C : lw_C g p s m meth c b L xs) (hd : decode code pc = .ok (.if_icmp .eq off, 3)) (ht : (pc : Int) + off = (pc' : Int)) (K : lj g p l e s m below meth c b i pc' st μ cells slots) : lj g p l e s m below meth c b i pc (.int x :: .int x :: st) μ cells slots :=
  fun H locs ls w S hl => lv_icmp_eq C.1.1 C.1.2.1 hd ht (fun _ => K H locs ls w S hl) (fun h => absurd rfl h)
theorem lj_eqJ {x : Int64} {off : Int} (C : lw_C g p s m meth c b L xs) (h1 : decode code pc = .ok (.lcmp, 1)) (hd : decode code (pc + 1) = .ok (.ifCond .eq off, 3)) (ht : ((pc + 1 : Nat) : Int) + off = (pc' : Int)) (K : lj g p l e s m below meth c b i pc' st μ cells slots) : lj g p l e s m below meth c b i pc (.long x :: .long x :: st) μ cells slots := by
  intro H locs ls w S hl
  refine W.lcmp C.1.1 C.1.2.1 h1 ?_
  have e1 : lg_cmp x x = 0 := by simp [lg_cmp]
  rw [e1]
  exact lv_if_eq C.1.1 C.1.2.1 hd ht (fun _ => K H locs ls w S hl) (fun h => absurd rfl h)
end LJ
/-! What is left: two functions that answer alike, for every call. -/
def pu_R {α : Type} (P : hm_M → Prop) (f9 f10 : hm_M → Option (α × hm_M)) : Prop := ∀ μ, P μ → ∃ (r : α) (μ1 μ2 : hm_M), f9 μ = some (r, μ1) ∧ f10 μ1 = some (r, μ2) ∧ P μ2
def pu_G {α : Type} (P : hm_M → Prop) (f9 f10 : hm_M → Option α) : Prop := ∀ μ, P μ → ∃ r : α, f9 μ = some r ∧ f10 μ = some r
def pu_a0 (P : hm_M → Prop) : Prop := (∀ v1 v2 v3 : Int32, pu_R P (f_X9_person v1 v2 v3) (f_X10_person v1 v2 v3)) ∧ (∀ v1 v2 : Int32, pu_R P (f_X9_of v1 v2) (f_X10_of v1 v2)) ∧ (∀ v1 v2 v3 : Int32, pu_R P (f_X9_asks v1 v2 v3) (f_X10_asks v1 v2 v3)) ∧ (∀ v1 v2 : Int32, pu_R P (f_X9_terms v1 v2) (f_X10_terms v1 v2)) ∧ (∀ v1 v2 v3 v4 v5 : Int32, pu_R P (f_X9_feed v1 v2 v3 v4 v5) (f_X10_feed v1 v2 v3 v4 v5)) ∧ (∀ v1 : Int32, pu_R P (f_X9_end v1) (f_X10_end v1)) ∧ (pu_R P f_X9_row f_X10_row) ∧ (pu_G P f_X9_gaps f_X10_gaps)
def pu_a1 (P : hm_M → Prop) : Prop := (pu_R P f_X9_law f_X10_law) ∧ (pu_R P f_X9_orders f_X10_orders) ∧ (pu_G P f_X9_fault f_X10_fault) ∧ (pu_G P f_X9_stopped f_X10_stopped) ∧ (∀ v1 : Int32, pu_R P (f_X9_force v1) (f_X10_force v1)) ∧ (∀ v1 v2 : Int32, pu_R P (f_X9_take v1 v2) (f_X10_take v1 v2)) ∧ (∀ v1 v2 : Int32, pu_R P (f_X9_loose v1 v2) (f_X10_loose v1 v2)) ∧ (∀ v1 v2 : Int32, pu_R P (f_X9_walk v1 v2) (f_X10_walk v1 v2))
def pu_a2 (P : hm_M → Prop) : Prop := (pu_R P f_X9_pass f_X10_pass) ∧ (pu_R P f_X9_undo f_X10_undo) ∧ (∀ v1 : Int32, pu_R P (f_X9_lights v1) (f_X10_lights v1)) ∧ (∀ v1 : Int32, pu_R P (f_X9_ring v1) (f_X10_ring v1)) ∧ (pu_R P f_X9_rings f_X10_rings) ∧ (∀ v1 : Int32, pu_R P (f_X9_narrow v1) (f_X10_narrow v1)) ∧ (∀ v1 : Int32, pu_R P (f_X9_gloves v1) (f_X10_gloves v1)) ∧ (∀ v1 : Int32, pu_R P (f_X9_kept v1) (f_X10_kept v1))
def pu_a3 (P : hm_M → Prop) : Prop := (∀ v1 : Int32, pu_R P (f_X9_two v1) (f_X10_two v1)) ∧ (pu_R P f_X9_stays f_X10_stays) ∧ (∀ v1 v2 v3 : Int32, pu_R P (f_X9_seen v1 v2 v3) (f_X10_seen v1 v2 v3)) ∧ (pu_R P f_X9_forget f_X10_forget) ∧ (∀ v1 : Int32, pu_R P (f_X9_fits v1) (f_X10_fits v1)) ∧ (∀ v1 : Int32, pu_R P (f_X9_ask v1) (f_X10_ask v1)) ∧ (∀ v1 v2 : Int32, pu_R P (f_X9_few v1 v2) (f_X10_few v1 v2)) ∧ (∀ v1 : Int32, pu_R P (f_X9_compare v1) (f_X10_compare v1))
def pu_a4 (P : hm_M → Prop) : Prop := (∀ v1 v2 : Int32, pu_R P (f_X9_days v1 v2) (f_X10_days v1 v2)) ∧ (∀ v1 v2 : Int32, pu_G P (f_X9_drawn v1 v2) (f_X10_drawn v1 v2)) ∧ (∀ v1 : Int32, pu_R P (f_X9_image v1) (f_X10_image v1)) ∧ (∀ v1 : Int32, pu_R P (f_X9_back v1) (f_X10_back v1)) ∧ (∀ v1 : Int32, pu_G P (f_X9_count v1) (f_X10_count v1)) ∧ (pu_G P f_X9_status f_X10_status)
def pu_all (P : hm_M → Prop) : Prop := (∀ μ, P μ → hm_LX μ) ∧ pu_a0 P ∧ pu_a1 P ∧ pu_a2 P ∧ pu_a3 P ∧ pu_a4 P
