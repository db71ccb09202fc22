/-! Making objects and rows; constructors' own steps. -/
def hm_al (μ : hm_M) (k L : Nat) : hm_M := ((fun b => if b = hm_nx μ then fun _ => 0 else μ.1 b), (fun b => if b = hm_nx μ then fun _ => 0 else μ.2.1 b), (fun b => if b = hm_nx μ then fun _ => none else μ.2.2.1 b), hm_nx μ + 1, (fun b => if b = hm_nx μ then k else hm_kd μ b), (fun b => if b = hm_nx μ then L else hm_ln μ b))
theorem hm_al_en {g : hm_G} {μ : hm_M} {k L b : Nat} (h : b ≠ hm_nx μ) : hm_en g (hm_al μ k L) b = hm_en g μ b := by
  have h1 : (hm_al μ k L).1 b = μ.1 b := if_neg h
  have h2 : (hm_al μ k L).2.1 b = μ.2.1 b := if_neg h
  have h3 : (hm_al μ k L).2.2.1 b = μ.2.2.1 b := if_neg h
  have h4 : hm_kd (hm_al μ k L) b = hm_kd μ b := if_neg h
  have h5 : hm_ln (hm_al μ k L) b = hm_ln μ b := if_neg h
  unfold hm_en hm_pl
  rw [h4, h5, h1, h2, h3, hm_fv_congr h1 h3]
theorem hm_W.alloc {g : hm_G} {μ : hm_M} {k L : Nat} {H H1 : Heap} (h : hm_W g μ H) (hz : H1.size = H.size + 1) (oq : ∀ q : Nat, q < H.size → H1[q]? = H[q]?) (he : va_at g.1 vwCl (H.size, hm_en g (hm_al μ k L) (hm_nx μ)) H1) : hm_W g (hm_al μ k L) H1 := by
  have h64 := h.1
  have hsz := h.2.1
  refine ⟨by show 64 ≤ hm_nx μ + 1; omega, ?_, fun a ha1 ha2 => ?_⟩
  · rw [hz, hsz]
    show hm_ra g (hm_nx μ) + 1 = hm_ra g (hm_nx μ + 1)
    unfold hm_ra
    omega
  · have ha2 : a < hm_nx μ + 1 := ha2
    by_cases e : a = hm_nx μ
    · rw [e, ← hsz]
      exact he
    · rw [hm_al_en e]
      have hlt : a < hm_nx μ := by omega
      refine va_at.kept (h.2.2 a ha1 hlt) (oq _ ?_)
      rw [hsz]
      show hm_ra g a < hm_ra g (hm_nx μ)
      unfold hm_ra
      omega
theorem hm_fv_al (g : hm_G) (μ : hm_M) (k L : Nat) : ∀ (l : List Bool) (j : Nat), hm_fv g (hm_al μ k L) (hm_nx μ) j l = l.map (fun b => if b = true then Value.null else .int 0)
  | [], _ => rfl
  | b :: l, j => by
    have k3 : (hm_al μ k L).1 (hm_nx μ) = fun _ => 0 := if_pos rfl
    have k5 : (hm_al μ k L).2.2.1 (hm_nx μ) = fun _ => none := if_pos rfl
    show hm_f1 g (hm_al μ k L) (hm_nx μ) j b :: hm_fv g (hm_al μ k L) (hm_nx μ) (j + 1) l = _
    rw [hm_fv_al g μ k L l (j + 1)]
    unfold hm_f1
    rw [k3, k5]
    cases b <;> rfl
section HMN
variable {Λ Λ1 : hm_M → Prop} {d d1 : hm_D} {fr fr1 kc kc1 ks ks1 : Nat} {r : Option Value} {μ μ1 μ' : hm_M} {pc pc' : Nat} {lv : List (Option Value)} {st st0 : List Value}
theorem hm_new {k L N n : Nat} (hk : 1 ≤ kc) (hs : N ≤ ks) (hp : pc + n = pc')
    (h : ∀ (l : Launch) (g : hm_G) (p : Program) (e : Env) (R : Room) (s : State) (m : MethodId) (args : Array Value) (below : List Frame) (meth : Method) (c : Code) (H : Heap) (locs : List Loc) (cells slots : Nat) (Q : State → Prop) (ls : Array Slot), hm_Cx g p s m args meth c d → hm_W g μ H → cells + 1 ≤ R.cells → slots + N ≤ R.slots → (∀ H1 : Heap, H1.size = H.size + 1 → (∀ q : Nat, q < H.size → H1[q]? = H[q]?) → va_at g.1 vwCl (H.size, hm_en g (hm_al μ k L) (hm_nx μ)) H1 → W p l e R s m args below meth c H1 locs (cells + 1) (slots + N) Q (F0 m (pc + n) ls (.ref H.size :: st.map (hm_cv g)))) → W p l e R s m args below meth c H locs cells slots Q (F0 m pc ls (st0.map (hm_cv g))))
    (K : hm_T Λ d fr (kc - 1) (ks - N) r μ' pc' lv (.ref (hm_nx μ) :: st) (hm_al μ k L)) : hm_T Λ d fr kc ks r μ' pc lv st0 μ := by
  subst hp
  refine ⟨K.1, fun l g p e s m args below meth c H locs cells slots mc ms ls C w S L0 q1 q2 => h l g p e _ s m args below meth c H locs cells slots _ ls C w (by show cells + 1 ≤ mc; omega) (by show slots + N ≤ ms; omega) fun H1 hz oq he => ?_⟩
  have kk := K.2 l g p e s m args below meth c H1 locs (cells + 1) (slots + N) mc ms ls C (w.alloc hz oq he) ⟨Nat.le_trans S.1 (by omega), fun q g1 g2 => by rw [oq q (Nat.lt_of_lt_of_le g1 S.1)]; exact S.2.1 q g1 g2, S.2.2⟩ L0 (by omega) (by omega)
  have e2 : hm_cv g (.ref (hm_nx μ)) = .ref H.size := by
    show Value.ref (hm_ad g (hm_nx μ)) = _
    rw [hm_ad_hi w.1, ← w.2.1]
  rw [List.map_cons, e2] at kk
  exact kk
theorem tr_new {ix ci N : Nat} {C : String} {T : u_T} (hKl : hm_Kl ci (C, T, N)) (ty : Nat → FieldType) (hty : ∀ k, k < N → parseFieldDescriptor (T k).2.2.1 = some (ty k)) (hdf : ∀ j, j < N → defaultValue (ty j) = vp_V ((hm_fT ci).map (fun b => if b = true then Value.null else .int 0)) j) (h1 : Cond.classLink d.1.cls ix C ∈ hm_tb) (h2 : Cond.instantiable C N ∈ hm_tb) (h3 : Cond.initialized C ∈ hm_tb) (hd : decode d.2.1 pc = .ok (.new ix, 3)) (hp : pc + 3 = pc') (hk : 1 ≤ kc) (hs : N ≤ ks) (K : hm_T Λ d fr (kc - 1) (ks - N) r μ' pc' lv (.ref (hm_nx μ) :: st) (hm_al μ ci 0)) : hm_T Λ d fr kc ks r μ' pc lv st μ := by
  obtain ⟨hc, hlt, hin, hN, -, -⟩ := hKl
  refine hm_new hk hs hp (fun l g p e R s m args below meth c H locs cells slots Q ls C0 w q1 q2 kk => ?_) K
  have hts := C0.2.2.2.2.2.2.2.1
  have hKn := C0.2.2.2.2.2.2.2.2.1.1 ci _ hc
  refine W.newcK C0.1 C0.2.1 C0.2.2.2.2.2.1 (hts _ h1) (hts _ h2) (hts _ h3) rfl hd q1 q2 hKn.2.1 rfl fun H1 kC hkC e1 z1 o1 => kk H1 z1 o1 ?_
  rw [hm_en_obj (show hm_kd (hm_al μ ci 0) (hm_nx μ) = ci from if_pos rfl) hlt, hm_fv_al]
  exact ⟨_, hc, (u_born ty hts hin hKn hkC e1 hty).to hdf⟩
theorem tr_newarr {atype : ArrayType} {ty : FieldType} {kd t0 L : Nat} {n : Int32} (hty : newarray.typeOf atype = ty) (hkd : 11 ≤ kd ∧ kd < 16) (ht : ∀ g, (hm_tys g)[t0]? = some (g.2.1 kd, ty)) (hra : ∀ (U : State) (cA : ClassId), va_RA U cA ty → U.vm.findClass ("[" ++ ty.toString) = some cA) (hcell : ∀ (g : hm_G) (cA : ClassId), vp_cell cA (L, if kd = 14 then Sum.inr (Sum.inl (fun _ => (0 : Int64))) else if kd < 16 then Sum.inl (fun _ => (0 : Int32)) else Sum.inr (Sum.inr (Sum.inr (Sum.inr (fun _ => none))))) = arrV cA L (fun _ => defaultValue ty)) (hw : Cond.arrayClass ty ∈ hm_tb) (hn : ¬ n < 0) (hL : n.toNatClampNeg = L) (hb : L * componentBytes ty ≤ 536870912) (hd : decode d.2.1 pc = .ok (.newarray atype, 2)) (hp : pc + 2 = pc') (hk : 1 ≤ kc) (hs : L ≤ ks) (K : hm_T Λ d fr (kc - 1) (ks - L) r μ' pc' lv (.ref (hm_nx μ) :: st) (hm_al μ kd L)) : hm_T Λ d fr kc ks r μ' pc lv (.int n :: st) μ := by
  subst hty
  refine hm_new hk hs hp (fun l g p e R s m args below meth c H locs cells slots Q ls C0 w q1 q2 kk => ?_) K
  have hts := C0.2.2.2.2.2.2.2.1
  refine va_newaK (h := H.size) C0.1 C0.2.1 (hts _ hw) (g := F0 m pc ls (.int n :: st.map (hm_cv g))) rfl hd rfl hn hL hb q1 q2 rfl fun H' cA e1 z1 o1 hA hf => kk H' z1 o1 ?_
  have h1 := hra _ _ (C0.2.2.2.2.2.2.2.2.1.2 t0 _ (ht g)).2
  have e9 : cA = g.2.1 kd := Option.some.inj (hf.symm.trans h1)
  have k1 : hm_kd (hm_al μ kd L) (hm_nx μ) = kd := if_pos rfl
  have k2 : hm_ln (hm_al μ kd L) (hm_nx μ) = L := if_pos rfl
  have k3 : (hm_al μ kd L).1 (hm_nx μ) = fun _ => 0 := if_pos rfl
  have k4 : (hm_al μ kd L).2.1 (hm_nx μ) = fun _ => 0 := if_pos rfl
  have k5 : (hm_al μ kd L).2.2.1 (hm_nx μ) = fun _ => none := if_pos rfl
  unfold hm_en
  rw [k1, if_neg (by omega)]
  show H'[H.size]? = some (vp_cell (g.2.1 kd) (hm_pl g (hm_al μ kd L) (hm_nx μ)))
  unfold hm_pl
  rw [k1, k2, k3, k4, k5]
  have h5 := hcell g (g.2.1 kd)
  rw [e1, e9, ← h5]
  rfl
theorem tr_objInit {ix a : Nat} (h1 : Cond.methodLink d.1.cls ix Lib.objectInit ∈ hm_tb) (h2 : Cond.instanceMethod Lib.objectInit ∈ hm_tb) (h3 : Cond.code Lib.objectInit ⟨#[0xb1]⟩ 1 none ∈ hm_tb) (hd : decode d.2.1 pc = .ok (.invokespecial ix, 3)) (hp : pc + 3 = pc') (hcat : (st.map fun v => v.category).sum ≤ 8) (hfr : 1 ≤ fr) (K : hm_T Λ d fr kc ks r μ' pc' lv st μ) : hm_T Λ d fr kc ks r μ' pc lv (.ref a :: st) μ := by
  subst hp
  refine ⟨K.1, fun l g p e s m args below meth c H locs cells slots mc ms ls C w S L q1 q2 => ?_⟩
  have hts := C.2.2.2.2.2.2.2.1
  exact W.objInit C.1 C.2.1 C.2.2.2.2.2.1 (hts _ h1) (hts _ h2) (hts _ h3) rfl (L.1.trans C.2.2.1.symm) rfl hd hfr (by show 2 * 0 + _ + 12 ≤ 40 * fr; rw [hm_cats]; omega) (K.2 l g p e s m args below meth c H locs cells slots mc ms ls C w S L q1 q2)
theorem hm_putF {μ2 : hm_M} {a ix ci k : Nat} {b : Bool} {ty : FieldType} (hF : hm_Fl d.1.cls ix ci k b ty true) (hi0 : d.1.name = "<init>") (hdecl : ∀ q : vw_C, vwCl[ci]? = some q → (q.2.1 k).1 = d.1.cls) (hd : decode d.2.1 pc = .ok (.putfield ix, 3)) (ha : hm_at μ a ci) {v : Value} (hnn : ∀ g, narrow ty (hm_cv g v) = hm_cv g v) (hff : ∀ g, fits ty (hm_cv g v) = true) (hn : μ2.2.2.2 = μ.2.2.2) (ho : ∀ (g : hm_G) (b : Nat), b ≠ a → hm_en g μ2 b = hm_en g μ b) (hfs : ∀ g : hm_G, hm_fv g μ2 a 0 (hm_fT ci) = (hm_fv g μ a 0 (hm_fT ci)).set k (hm_cv g v)) (K : hm_T Λ d fr kc ks r μ' (pc + 3) lv st μ2) : hm_T Λ d fr kc ks r μ' pc lv (v :: .ref a :: st) μ := by
  obtain ⟨q, ⟨hc, hlt, hin, hN, ⟨ty0, hty⟩, hnm⟩, hk, hw, hb, hpd, hfi⟩ := hF
  have hdl := hdecl q hc
  refine hm_set ha.1 ha.2.1 hn ho (fun l g p e R s m args below meth c H locs cells slots Q ls C w0 kk => ?_) K
  show W p l e R s m args below meth c H locs cells slots Q (F0 m pc ls (hm_cv g v :: .ref (hm_ad g a) :: st.map (hm_cv g)))
  rw [hm_ad_hi ha.1]
  have hts := C.2.2.2.2.2.2.2.1
  have hK := C.2.2.2.2.2.2.2.2.1
  have hown := C.2.2.2.2.2.1
  have hap := va_apart (own := d.1.cls) hts hin ty0 hty hnm hK hc
  have he : va_at g.1 vwCl (hm_ra g a, .inr (ci, hm_fv g μ a 0 (hm_fT ci))) H := by
    rw [← hm_en_obj ha.2.2 hlt]
    exact w0.2.2 a ha.1 ha.2.1
  obtain ⟨r', h1, cell, q1, q2, q3, q4⟩ := he
  have hr : r' = q := Option.some.inj (h1.symm.trans hc)
  subst hr
  obtain ⟨hS, hfc, kC, hkC, hkind⟩ := hK.1 ci _ hc
  obtain ⟨cf, kf, fi, f, hi, hsl⟩ := hS k hk
  have hlay := hts _ (hin _ (u_in_lay hk))
  unfold u_lay at hlay
  rw [if_pos hfi] at hlay
  have hst := (u_facts hfc hkC (u_lays hts hin hk) hi).1
  have hcf : m.cls = cf := by
    obtain ⟨_, _, c', _, _, _, -, -, hf', -, -, -, hown2, -⟩ := Cond.laysFinal_spec hlay
    have e1 : c' = cf := by have := hi.symm.trans hf'; simp at this; exact this.1.symm
    rw [hdl] at hown2
    rw [← e1]; exact Option.some.inj (hown.symm.trans hown2)
  have h6 := u_fits hfc hkC hkind (Or.inr hlay) hi hpd (hnn g) (hff g)
  refine W.putFinK C.1 C.2.1 hown (hts _ hw) hi hst hcf (C.2.2.2.2.2.2.1.trans hi0) (by rw [q2]; exact h6) q1 q3 (by rw [hsl]; exact k2_hasslot (q4 k hk)) rfl rfl hd fun H' e1 e2 e3 => ?_
  rw [hsl] at e1 ⊢
  refine kk H' _ e2 e3 ?_
  rw [hm_en_obj (show hm_kd μ2 a = ci by show μ2.2.2.2.2.1 a = ci; rw [hn]; exact ha.2.2) hlt]
  refine ⟨_, hc, ?_⟩
  show t_OB (hm_ra g a) (g.1.1 ci) r'.2.2 (g.1.2 ci) H' (vp_V (hm_fv g μ2 a 0 (hm_fT ci)))
  rw [hfs g]
  exact t_OB.to (V := updV (vp_V (hm_fv g μ a 0 (hm_fT ci))) k (hm_cv g v)) ⟨_, e1, q2, q3, t_set q4 hap hk _⟩ (fun j _ => vp_updV_set (by rw [hm_fv_len, ← hN]; exact hk) _ j)
theorem tr_putFR {a ix ci k : Nat} {ty : FieldType} {x : Option Nat} (hF : hm_Fl d.1.cls ix ci k true ty true) (hi0 : d.1.name = "<init>") (hdecl : ∀ q : vw_C, vwCl[ci]? = some q → (q.2.1 k).1 = d.1.cls) (hd : decode d.2.1 pc = .ok (.putfield ix, 3)) (hp : pc + 3 = pc') (ha : hm_at μ a ci) (hn : ∀ y : Option Nat, narrow ty (va_rf y) = va_rf y ∧ fits ty (va_rf y) = true) (K : hm_T Λ d fr kc ks r μ' pc' lv st (hm_wR μ a k x)) : hm_T Λ d fr kc ks r μ' pc lv (va_rf x :: .ref a :: st) μ := by
  subst hp
  refine hm_putF (μ2 := hm_wR μ a k x) hF hi0 hdecl hd ha (v := va_rf x) (fun g => by rw [hm_cv_rf]; exact (hn _).1) (fun g => by rw [hm_cv_rf]; exact (hn _).2) rfl (hm_wR_ho μ a k x) (fun g => ?_) K
  obtain ⟨q, -, -, -, hb, -⟩ := hF
  refine hm_fv_set (fun b hb2 => ?_) (fun j b hj => ?_)
  · rw [hb] at hb2
    cases hb2
    rw [hm_cv_rf]
    simp [hm_f1, hm_wR, hm_u]
  · simp [hm_f1, hm_wR, hm_u, hj]
theorem tr_callI {a ix n : Nat} {As : List Value} (ok : hm_okI d1 n) (hlk : Cond.methodLink d.1.cls ix d1.1 ∈ hm_tb) (hd : decode d.2.1 pc = .ok (.invokespecial ix, 3)) (hp : pc + 3 = pc') (ha : 64 ≤ a) (hn : As.length = n) (hst : As.reverse ++ .ref a :: st = st0) (hcat : (st.map fun v => v.category).sum ≤ 8) (hfr : fr1 + 1 ≤ fr) (hk : kc1 ≤ kc) (hs : ks1 ≤ ks) (hc : hm_CC Λ1 d1 fr1 kc1 ks1 (.ref a :: As) μ none μ1)
    (K : hm_T Λ d fr (kc - kc1) (ks - ks1) r μ' pc' lv st μ1) : hm_T Λ d fr kc ks r μ' pc lv st0 μ := by
  subst hp; subst hst
  obtain ⟨o1, o2, o4, o5, o6, o7, o8, o9⟩ := ok
  refine hm_call (r1 := none) hk hs (fun l g p e mc ms s m args below meth c H locs cells slots ls C w S L h1 h2 => ?_) K
  have hts := C.2.2.2.2.2.2.2.1
  have hG : GoodIn hm_tb (hm_ws d1) := hm_gws (by rw [o9]; exact o1)
  refine va_runI (own := d.1.cls) (b := hm_ra g a) (As := As.map (hm_cv g)) (Pc := hm_Pre g (.ref a :: As) μ) (n := n) (nL := d.2.2.1) (cc := d.2.1) (Ts := hm_tb) (bytes := d1.2.1) (maxL := d1.2.2.1) (index := ix) ⟨C.1, C.2.1, C.2.2.1, C.2.2.2.2.2.1, hts⟩ (hc.2 l g) (cwI n hts hG (by unfold hm_ws; rw [o9]) rfl rfl (hts _ o4) (hts _ hlk) (hts _ o2) o8 ⟨o5.1, o5.2, o6⟩ ⟨?_, ?_⟩) ⟨hm_blind g _ μ, fun U hU hW => ?_⟩ rfl (by rw [List.length_map]; exact hn) L.1 ?_ (lv_room (by rw [hm_cats]; exact hcat)) hd ⟨h1, h2⟩
  · show fr1 + 1 ≤ fr
    exact hfr
  · show 8 + (d1.2.2.1 + 11) + 40 * fr1 ≤ 40 * fr
    omega
  · have := hm_preU C w S (av := .ref a :: As) U hU hW
    rw [List.map_cons] at this
    show hm_Pre g (.ref a :: As) μ (Value.ref (hm_ra g a) :: As.map (hm_cv g)).toArray U
    rw [← hm_ad_hi (g := g) ha]
    exact this
  · show (As.reverse ++ .ref a :: st).map (hm_cv g) = _
    rw [hm_rev, List.map_cons]
    show _ ++ Value.ref (hm_ad g a) :: _ = _
    rw [hm_ad_hi ha]
end HMN
