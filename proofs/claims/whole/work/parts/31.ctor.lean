/-! Constructors: the next address is known. -/
theorem nx_al {μ : hm_M} {n n' k L : Nat} (h : hm_nx μ = n) (e : n + 1 = n') : hm_nx (hm_al μ k L) = n' := by
  show hm_nx μ + 1 = n'
  rw [h, e]
theorem nx_wR {μ : hm_M} {n a j : Nat} {v : Option Nat} (h : hm_nx μ = n) : hm_nx (hm_wR μ a j v) = n := h
theorem nx_wI {μ : hm_M} {n a j : Nat} {v : Int32} (h : hm_nx μ = n) : hm_nx (hm_wI μ a j v) = n := h
theorem at_wR {μ : hm_M} {a c b j : Nat} {v : Option Nat} (h : hm_at μ a c) : hm_at (hm_wR μ b j v) a c := h
theorem at_wI {μ : hm_M} {a c b j : Nat} {v : Int32} (h : hm_at μ a c) : hm_at (hm_wI μ b j v) a c := h
theorem ar_wR {μ : hm_M} {a c L b j : Nat} {v : Option Nat} (h : hm_ar μ a c L) : hm_ar (hm_wR μ b j v) a c L := h
theorem ar_wI {μ : hm_M} {a c L b j : Nat} {v : Int32} (h : hm_ar μ a c L) : hm_ar (hm_wI μ b j v) a c L := h
theorem at_nw {μ : hm_M} {n k L : Nat} (h : hm_nx μ = n) (h64 : 64 ≤ n) : hm_at (hm_al μ k L) n k := by subst h; exact hm_at_new h64
theorem ar_nw {μ : hm_M} {n k L : Nat} (h : hm_nx μ = n) (h64 : 64 ≤ n) : hm_ar (hm_al μ k L) n k L := by subst h; exact hm_ar_new h64
section HMK
variable {Λ Λ1 : hm_M → Prop} {d d1 : hm_D} {fr fr1 kc kc1 ks ks1 : Nat} {r : Option Value} {μ μ1 μ' : hm_M} {pc pc' : Nat} {lv : List (Option Value)} {st st0 : List Value}
theorem tn_new {n ix ci N : Nat} {C : String} {T : u_T} (hN : hm_nx μ = n) (hKl : hm_Kl ci (C, T, N)) (ty : Nat → FieldType) (hty : ∀ k, k < N → parseFieldDescriptor (T k).2.2.1 = some (ty k)) (hdf : ∀ j, j < N → defaultValue (ty j) = vp_V ((hm_fT ci).map (fun b => if b = true then Value.null else .int 0)) j) (h1 : Cond.classLink d.1.cls ix C ∈ hm_tb) (h2 : Cond.instantiable C N ∈ hm_tb) (h3 : Cond.initialized C ∈ hm_tb) (hd : decode d.2.1 pc = .ok (.new ix, 3)) (hp : pc + 3 = pc') (hk : 1 ≤ kc) (hs : N ≤ ks) (K : hm_T Λ d fr (kc - 1) (ks - N) r μ' pc' lv (.ref n :: st) (hm_al μ ci 0)) : hm_T Λ d fr kc ks r μ' pc lv st μ := by
  subst hN
  exact tr_new hKl ty hty hdf h1 h2 h3 hd hp hk hs K
theorem tn_int {n L : Nat} {x : Int32} (hN : hm_nx μ = n) (hx : ¬ x < 0) (hL : x.toNatClampNeg = L) (hb : L * 4 ≤ 536870912) (hd : decode d.2.1 pc = .ok (.newarray .int, 2)) (hp : pc + 2 = pc') (hk : 1 ≤ kc) (hs : L ≤ ks) (K : hm_T Λ d fr (kc - 1) (ks - L) r μ' pc' lv (.ref n :: st) (hm_al μ 13 L)) : hm_T Λ d fr kc ks r μ' pc lv (.int x :: st) μ := by
  subst hN
  exact tr_newarr (atype := .int) (ty := .int) (kd := 13) (t0 := 2) rfl ⟨by decide, by decide⟩ (fun _ => rfl) (fun _ _ h => h) (fun _ _ => rfl) kw_arr_int hx hL hb hd hp hk hs K
theorem tn_byte {n L : Nat} {x : Int32} (hN : hm_nx μ = n) (hx : ¬ x < 0) (hL : x.toNatClampNeg = L) (hb : L * 1 ≤ 536870912) (hd : decode d.2.1 pc = .ok (.newarray .byte, 2)) (hp : pc + 2 = pc') (hk : 1 ≤ kc) (hs : L ≤ ks) (K : hm_T Λ d fr (kc - 1) (ks - L) r μ' pc' lv (.ref n :: st) (hm_al μ 11 L)) : hm_T Λ d fr kc ks r μ' pc lv (.int x :: st) μ := by
  subst hN
  exact tr_newarr (atype := .byte) (ty := .byte) (kd := 11) (t0 := 0) rfl ⟨by decide, by decide⟩ (fun _ => rfl) (fun _ _ h => h) (fun _ _ => rfl) kw_arr_byte hx hL hb hd hp hk hs K
theorem tn_char {n L : Nat} {x : Int32} (hN : hm_nx μ = n) (hx : ¬ x < 0) (hL : x.toNatClampNeg = L) (hb : L * 2 ≤ 536870912) (hd : decode d.2.1 pc = .ok (.newarray .char, 2)) (hp : pc + 2 = pc') (hk : 1 ≤ kc) (hs : L ≤ ks) (K : hm_T Λ d fr (kc - 1) (ks - L) r μ' pc' lv (.ref n :: st) (hm_al μ 12 L)) : hm_T Λ d fr kc ks r μ' pc lv (.int x :: st) μ := by
  subst hN
  exact tr_newarr (atype := .char) (ty := .char) (kd := 12) (t0 := 1) rfl ⟨by decide, by decide⟩ (fun _ => rfl) (fun _ _ h => h) (fun _ _ => rfl) kw_arr_char hx hL hb hd hp hk hs K
theorem tn_bool {n L : Nat} {x : Int32} (hN : hm_nx μ = n) (hx : ¬ x < 0) (hL : x.toNatClampNeg = L) (hb : L * 1 ≤ 536870912) (hd : decode d.2.1 pc = .ok (.newarray .boolean, 2)) (hp : pc + 2 = pc') (hk : 1 ≤ kc) (hs : L ≤ ks) (K : hm_T Λ d fr (kc - 1) (ks - L) r μ' pc' lv (.ref n :: st) (hm_al μ 15 L)) : hm_T Λ d fr kc ks r μ' pc lv (.int x :: st) μ := by
  subst hN
  exact tr_newarr (atype := .boolean) (ty := .boolean) (kd := 15) (t0 := 4) rfl ⟨by decide, by decide⟩ (fun _ => rfl) (fun _ _ h => h) (fun _ _ => rfl) kw_arr_boolean hx hL hb hd hp hk hs K
theorem tn_long {n L : Nat} {x : Int32} (hN : hm_nx μ = n) (hx : ¬ x < 0) (hL : x.toNatClampNeg = L) (hb : L * 8 ≤ 536870912) (hd : decode d.2.1 pc = .ok (.newarray .long, 2)) (hp : pc + 2 = pc') (hk : 1 ≤ kc) (hs : L ≤ ks) (K : hm_T Λ d fr (kc - 1) (ks - L) r μ' pc' lv (.ref n :: st) (hm_al μ 14 L)) : hm_T Λ d fr kc ks r μ' pc lv (.int x :: st) μ := by
  subst hN
  exact tr_newarr (atype := .long) (ty := .long) (kd := 14) (t0 := 3) rfl ⟨by decide, by decide⟩ (fun _ => rfl) (fun _ _ h => h) (fun _ _ => rfl) kw_arr_long hx hL hb hd hp hk hs K
/-- a row of references -/
theorem tn_aref {n L ix kd t0 : Nat} {E : String} {x : Int32} (hN : hm_nx μ = n) (hkd : 16 ≤ kd) (ht : ∀ g, (hm_tys g)[t0]? = some (g.2.1 kd, .object E)) (hw : Cond.classLink d.1.cls ix E ∈ hm_tb) (hao : ∀ g U, hm_E g U → va_AO E U) (hx : ¬ x < 0) (hL : x.toNatClampNeg = L) (hb : L * 4 ≤ 536870912) (hd : decode d.2.1 pc = .ok (.anewarray ix, 3)) (hp : pc + 3 = pc') (hk : 1 ≤ kc) (hs : L ≤ ks) (K : hm_T Λ d fr (kc - 1) (ks - L) r μ' pc' lv (.ref n :: st) (hm_al μ kd L)) : hm_T Λ d fr kc ks r μ' pc lv (.int x :: st) μ := by
  subst hN; subst hL
  refine hm_new hk hs hp (fun l g p e R s m args below meth c H locs cells slots Q ls C0 w q1 q2 kk => ?_) K
  have hts := C0.2.2.2.2.2.2.2.1
  refine W.anew C0.1 C0.2.1 C0.2.2.2.2.2.1 (hts _ hw) (va_AO.use (hao g s C0.2.2.2.2.2.2.2.2.2.1)) (g := F0 m pc ls (.int x :: st.map (hm_cv g))) rfl hd rfl hx hb q1 q2 fun cA kA comp f1 f2 f3 f4 => ?_
  refine kk (H.push { cls := cA, slots := Array.replicate x.toNatClampNeg .null, vm := .none }) (by rw [Array.size_push]) (fun q hq => by rw [Array.getElem?_push, if_neg (Nat.ne_of_lt hq)]) ?_
  obtain ⟨kA2, comp2, g1, g2, g3, g4⟩ := (C0.2.2.2.2.2.2.2.2.1.2 t0 _ (ht g)).2
  have e9 : cA = g.2.1 kd := Option.some.inj (f1.symm.trans g4)
  have k1 : hm_kd (hm_al μ kd x.toNatClampNeg) (hm_nx μ) = kd := if_pos rfl
  have k2 : hm_ln (hm_al μ kd x.toNatClampNeg) (hm_nx μ) = x.toNatClampNeg := if_pos rfl
  have k5 : (hm_al μ kd x.toNatClampNeg).2.2.1 (hm_nx μ) = fun _ => none := if_pos rfl
  rw [hm_en_ref k1 hkd, k2, k5]
  show (H.push _)[H.size]? = some (vp_cell (g.2.1 kd) _)
  rw [Array.getElem?_push_size, vp_cell_q, arrV_new, e9]
  rfl
theorem tn_put {a ix ci k x : Nat} {ty : FieldType} (hF : hm_Fl d.1.cls ix ci k true ty true) (hi0 : d.1.name = "<init>") (hdecl : ∀ q : vw_C, vwCl[ci]? = some q → (q.2.1 k).1 = d.1.cls) (hd : decode d.2.1 pc = .ok (.putfield ix, 3)) (hp : pc + 3 = pc') (ha : hm_at μ a ci) (hn : ∀ y : Option Nat, narrow ty (va_rf y) = va_rf y ∧ fits ty (va_rf y) = true) (K : hm_T Λ d fr kc ks r μ' pc' lv st (hm_wR μ a k (some x))) : hm_T Λ d fr kc ks r μ' pc lv (.ref x :: .ref a :: st) μ :=
  tr_putFR (x := some x) hF hi0 hdecl hd hp ha hn K
end HMK
theorem hm_nfO (C : String) (y : Option Nat) : narrow (.object C) (va_rf y) = va_rf y ∧ fits (.object C) (va_rf y) = true := by cases y <;> exact ⟨rfl, rfl⟩
theorem hm_nfA (t : FieldType) (y : Option Nat) : narrow (.array t) (va_rf y) = va_rf y ∧ fits (.array t) (va_rf y) = true := by cases y <;> exact ⟨rfl, rfl⟩
