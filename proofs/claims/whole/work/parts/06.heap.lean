/-! Rules that read and write the memory. -/
def hm_at (μ : hm_M) (a ci : Nat) : Prop := 64 ≤ a ∧ a < hm_nx μ ∧ hm_kd μ a = ci
def hm_ar (μ : hm_M) (a k L : Nat) : Prop := 64 ≤ a ∧ a < hm_nx μ ∧ hm_kd μ a = k ∧ hm_ln μ a = L
def hm_Kl (ci : Nat) (q : vw_C) : Prop := vwCl[ci]? = some q ∧ ci < 11 ∧ (∀ w ∈ u_ws q.1 q.2.1 q.2.2, w ∈ hm_tb) ∧ q.2.2 = (hm_fT ci).length ∧ (∃ ty0 : Nat → FieldType, ∀ k, k < q.2.2 → parseFieldDescriptor (q.2.1 k).2.2.1 = some (ty0 k)) ∧ (∀ a, a < q.2.2 → ∀ b, b < q.2.2 → a ≠ b → (q.2.1 a).2.1 ≠ (q.2.1 b).2.1)
def hm_Fl (own : String) (idx ci k : Nat) (b : Bool) (ty : FieldType) (fin : Bool) : Prop := ∃ q : vw_C, hm_Kl ci q ∧ k < q.2.2 ∧ Cond.fieldLink own idx (q.2.1 k).1 (q.2.1 k).2.1 (q.2.1 k).2.2.1 ∈ hm_tb ∧ (hm_fT ci)[k]? = some b ∧ parseFieldDescriptor (q.2.1 k).2.2.1 = some ty ∧ (q.2.1 k).2.2.2 = fin
theorem hm_u_ne {α : Type} (f : Nat → Nat → α) (a j : Nat) (v : α) {b : Nat} (h : b ≠ a) : hm_u f a j v b = f b := by
  funext k
  simp [hm_u, h]
theorem hm_u_at {α : Type} (f : Nat → Nat → α) (a j : Nat) (v : α) : hm_u f a j v a = fun k => if k = j then v else f a k := by
  funext k
  simp [hm_u]
theorem hm_fv_congr {g : hm_G} {μ μ2 : hm_M} {a : Nat} (h1 : μ2.1 a = μ.1 a) (h3 : μ2.2.2.1 a = μ.2.2.1 a) : ∀ (l : List Bool) (j : Nat), hm_fv g μ2 a j l = hm_fv g μ a j l
  | [], _ => rfl
  | b :: l, j => by
    simp only [hm_fv, hm_f1]
    rw [hm_fv_congr h1 h3 l (j + 1), h1, h3]
theorem hm_en_congr {g : hm_G} {μ μ2 : hm_M} {a : Nat} (hn : μ2.2.2.2 = μ.2.2.2) (h1 : μ2.1 a = μ.1 a) (h2 : μ2.2.1 a = μ.2.1 a) (h3 : μ2.2.2.1 a = μ.2.2.1 a) : hm_en g μ2 a = hm_en g μ a := by
  unfold hm_en hm_pl hm_kd hm_ln
  rw [hn, h1, h2, h3, hm_fv_congr h1 h3]
theorem hm_en_obj {g : hm_G} {μ : hm_M} {a ci : Nat} (h : hm_kd μ a = ci) (hc : ci < 11) : hm_en g μ a = .inr (ci, hm_fv g μ a 0 (hm_fT ci)) := by
  unfold hm_en
  rw [h, if_pos hc]
theorem hm_en_int {g : hm_G} {μ : hm_M} {a k : Nat} (h : hm_kd μ a = k) (h1 : 11 ≤ k) (h2 : k ≠ 14) (h3 : k < 16) : hm_en g μ a = .inl (g.2.1 k, hm_ln μ a, .inl (μ.1 a)) := by
  unfold hm_en hm_pl
  rw [h, if_neg (by omega), if_neg h2, if_pos h3]
theorem hm_en_long {g : hm_G} {μ : hm_M} {a : Nat} (h : hm_kd μ a = 14) : hm_en g μ a = .inl (g.2.1 14, hm_ln μ a, .inr (.inl (μ.2.1 a))) := by
  unfold hm_en hm_pl
  rw [h]
  rfl
theorem hm_en_ref {g : hm_G} {μ : hm_M} {a k : Nat} (h : hm_kd μ a = k) (h1 : 16 ≤ k) : hm_en g μ a = .inl (g.2.1 k, hm_ln μ a, .inr (.inr (.inr (.inr (fun i => (μ.2.2.1 a i).map (hm_ad g)))))) := by
  unfold hm_en hm_pl
  rw [h, if_neg (by omega), if_neg (by omega), if_neg (by omega)]
section HMH
variable {Λ : hm_M → Prop} {d : hm_D} {fr kc ks : Nat} {r : Option Value} {μ μ' : hm_M} {pc pc' : Nat} {lv : List (Option Value)} {st st' : List Value}
theorem tr_getI {a ix ci k : Nat} {ty : FieldType} {fin : Bool} (hF : hm_Fl d.1.cls ix ci k false ty fin) (hd : decode d.2.1 pc = .ok (.getfield ix, 3)) (hp : pc + 3 = pc') (ha : hm_at μ a ci) (K : hm_T Λ d fr kc ks r μ' pc' lv (.int (μ.1 a k) :: st) μ) : hm_T Λ d fr kc ks r μ' pc lv (.ref a :: st) μ := by
  subst hp
  obtain ⟨q, ⟨hc, hlt, hin, hN, -, -⟩, hk, hw, hb, -, -⟩ := hF
  refine hm_go (fun l g p e R s m args below meth c H locs cells slots Q ls C w0 S L w => ?_) K
  show W p l e R s m args below meth c H locs cells slots Q (F0 m pc ls (.ref (hm_ad g a) :: st.map (hm_cv g)))
  rw [hm_ad_hi ha.1]
  exact va_get (Ts := hm_tb) C.1 C.2.1 C.2.2.2.2.2.2.2.1 hin C.2.2.2.2.2.1 C.2.2.2.2.2.2.2.2.1 (w0.one ha.1 ha.2.1) 0 (by rw [hm_en_obj ha.2.2 hlt]; rfl) hc k hk (C.2.2.2.2.2.2.2.1 _ hw) (fun _ h => h) (by rw [hm_fv_get, hb]; simp only [Option.map_some, hm_f1, Nat.zero_add]; rfl) hd w
theorem tr_getR {a ix ci k : Nat} {ty : FieldType} {fin : Bool} (hF : hm_Fl d.1.cls ix ci k true ty fin) (hd : decode d.2.1 pc = .ok (.getfield ix, 3)) (hp : pc + 3 = pc') (ha : hm_at μ a ci) {v : Value} (hv : va_rf (μ.2.2.1 a k) = v) (K : hm_T Λ d fr kc ks r μ' pc' lv (v :: st) μ) : hm_T Λ d fr kc ks r μ' pc lv (.ref a :: st) μ := by
  subst hp
  subst hv
  obtain ⟨q, ⟨hc, hlt, hin, hN, -, -⟩, hk, hw, hb, -, -⟩ := hF
  refine hm_go (fun l g p e R s m args below meth c H locs cells slots Q ls C w0 S L w => ?_) K
  show W p l e R s m args below meth c H locs cells slots Q (F0 m pc ls (.ref (hm_ad g a) :: st.map (hm_cv g)))
  rw [hm_ad_hi ha.1]
  rw [List.map_cons, hm_cv_rf] at w
  exact va_get (Ts := hm_tb) C.1 C.2.1 C.2.2.2.2.2.2.2.1 hin C.2.2.2.2.2.1 C.2.2.2.2.2.2.2.2.1 (w0.one ha.1 ha.2.1) 0 (by rw [hm_en_obj ha.2.2 hlt]; rfl) hc k hk (C.2.2.2.2.2.2.2.1 _ hw) (fun _ h => h) (by rw [hm_fv_get, hb]; simp only [Option.map_some, hm_f1, Nat.zero_add]; rfl) hd w
/-- a step that changes the heap in one cell of ours -/
theorem hm_set {μ2 : hm_M} {a : Nat} (h1 : 64 ≤ a) (h2 : a < hm_nx μ) (hn : μ2.2.2.2 = μ.2.2.2) (ho : ∀ (g : hm_G) (b : Nat), b ≠ a → hm_en g μ2 b = hm_en g μ b)
    (h : ∀ (l : Launch) (g : hm_G) (p : Program) (e : Env) (R : Room) (s : State) (m : MethodId) (args : Array Value) (below : List Frame) (meth : Method) (c : Code) (H : Heap) (locs : List Loc) (cells slots : Nat) (Q : State → Prop) (ls : Array Slot), hm_Cx g p s m args meth c d → hm_W g μ H → (∀ (H1 : Heap) (i : Nat), H1.size = H.size → (∀ q : Nat, q ≠ hm_ra g a → H1[q]? = H[q]?) → va_at g.1 vwCl (hm_ra g a, hm_en g μ2 a) H1 → W p l e R s m args below meth c H1 (locs ++ [⟨hm_ra g a, i⟩]) cells slots Q (F0 m pc' ls (st'.map (hm_cv g)))) → W p l e R s m args below meth c H locs cells slots Q (F0 m pc ls (st.map (hm_cv g))))
    (k : hm_T Λ d fr kc ks r μ' pc' lv st' μ2) : hm_T Λ d fr kc ks r μ' pc lv st μ := by
  refine ⟨k.1, fun l g p e s m args below meth c H locs cells slots mc ms ls C w S L q1 q2 => h l g p e _ s m args below meth c H locs cells slots _ ls C w fun H1 i hz oq he => k.2 l g p e s m args below meth c H1 _ cells slots mc ms ls C (w.upd h1 h2 hn hz oq he (ho g)) ?_ L q1 q2⟩
  exact S.put hz oq (show g.2.2.2 ≤ hm_ra g a from Nat.le_add_right _ _)
theorem hm_wI_ho (μ : hm_M) (a j : Nat) (v : Int32) (g : hm_G) (b : Nat) (h : b ≠ a) : hm_en g (hm_wI μ a j v) b = hm_en g μ b := hm_en_congr rfl (hm_u_ne _ _ _ _ h) rfl rfl
theorem hm_wJ_ho (μ : hm_M) (a j : Nat) (v : Int64) (g : hm_G) (b : Nat) (h : b ≠ a) : hm_en g (hm_wJ μ a j v) b = hm_en g μ b := hm_en_congr rfl rfl (hm_u_ne _ _ _ _ h) rfl
theorem hm_wR_ho (μ : hm_M) (a j : Nat) (v : Option Nat) (g : hm_G) (b : Nat) (h : b ≠ a) : hm_en g (hm_wR μ a j v) b = hm_en g μ b := hm_en_congr rfl rfl rfl (hm_u_ne _ _ _ _ h)
theorem hm_put {μ2 : hm_M} {a ix ci k : Nat} {b fin : Bool} {ty : FieldType} (hF : hm_Fl d.1.cls ix ci k b ty fin) (hd : decode d.2.1 pc = .ok (.putfield ix, 3)) (ha : hm_at μ a ci) {v : Value} (hnn : ∀ g, narrow ty (hm_cv g v) = hm_cv g v) (hff : ∀ g, fits ty (hm_cv g v) = true) (hn : μ2.2.2.2 = μ.2.2.2) (ho : ∀ (g : hm_G) (b : Nat), b ≠ a → hm_en g μ2 b = hm_en g μ b) (hfs : ∀ g : hm_G, hm_fv g μ2 a 0 (hm_fT ci) = (hm_fv g μ a 0 (hm_fT ci)).set k (hm_cv g v)) (hf0 : fin = false) (K : hm_T Λ d fr kc ks r μ' (pc + 3) lv st μ2) : hm_T Λ d fr kc ks r μ' pc lv (v :: .ref a :: st) μ := by
  obtain ⟨q, ⟨hc, hlt, hin, hN, ⟨ty0, hty⟩, hnm⟩, hk, hw, hb, hpd, hfi⟩ := hF
  refine hm_set ha.1 ha.2.1 hn ho (fun l g p e R s m args below meth c H locs cells slots Q ls C w0 kk => ?_) K
  show W p l e R s m args below meth c H locs cells slots Q (F0 m pc ls (hm_cv g v :: .ref (hm_ad g a) :: st.map (hm_cv g)))
  rw [hm_ad_hi ha.1]
  have hts := C.2.2.2.2.2.2.2.1
  have hK := C.2.2.2.2.2.2.2.2.1
  have hown := C.2.2.2.2.2.1
  have hap := va_apart (own := d.1.cls) hts hin ty0 hty hnm hK hc
  have he : va_at g.1 vwCl (hm_ra g a, .inr (ci, hm_fv g μ a 0 (hm_fT ci))) H := by
    rw [← hm_en_obj ha.2.2 hlt]
    exact w0.2.2 a ha.1 ha.2.1
  obtain ⟨r', h1, cell, q1, q2, q3, q4⟩ := he
  have hr : r' = q := Option.some.inj (h1.symm.trans hc)
  subst hr
  obtain ⟨hS, hfc, kC, hkC, hkind⟩ := hK.1 ci _ hc
  obtain ⟨cf, kf, fi, f, hi, hsl⟩ := hS k hk
  have hlay := hts _ (hin _ (u_in_lay hk))
  unfold u_lay at hlay
  rw [if_neg (by rw [hfi, hf0]; decide)] at hlay
  have hst := (u_facts hfc hkC (u_lays hts hin hk) hi).1
  have h6 := u_store hfc hkC hkind hlay hi hpd (hnn g) (hff g)
  refine W.putK C.1 C.2.1 (f := f) ⟨hown, hts _ hw, ⟨_, _, _, hi⟩, hst⟩ (by rw [q2]; exact h6) q1 q3 (by rw [hsl]; exact k2_hasslot (q4 k hk)) rfl rfl hd fun H' e1 e2 e3 => ?_
  rw [hsl] at e1 ⊢
  refine kk H' _ e2 e3 ?_
  rw [hm_en_obj (show hm_kd μ2 a = ci by show μ2.2.2.2.2.1 a = ci; rw [hn]; exact ha.2.2) hlt]
  refine ⟨_, hc, ?_⟩
  show t_OB (hm_ra g a) (g.1.1 ci) r'.2.2 (g.1.2 ci) H' (vp_V (hm_fv g μ2 a 0 (hm_fT ci)))
  rw [hfs g]
  exact t_OB.to (V := updV (vp_V (hm_fv g μ a 0 (hm_fT ci))) k (hm_cv g v)) ⟨_, e1, q2, q3, t_set q4 hap hk _⟩ (fun j _ => vp_updV_set (by rw [hm_fv_len, ← hN]; exact hk) _ j)
theorem tr_putI {a ix ci k : Nat} {ty : FieldType} {x : Int32} (hF : hm_Fl d.1.cls ix ci k false ty false) (hd : decode d.2.1 pc = .ok (.putfield ix, 3)) (hp : pc + 3 = pc') (ha : hm_at μ a ci) (hn : narrow ty (.int x) = .int x) (hf : fits ty (.int x) = true) (K : hm_T Λ d fr kc ks r μ' pc' lv st (hm_wI μ a k x)) : hm_T Λ d fr kc ks r μ' pc lv (.int x :: .ref a :: st) μ := by
  subst hp
  refine hm_put (μ2 := hm_wI μ a k x) hF hd ha (v := .int x) (fun _ => hn) (fun _ => hf) rfl (hm_wI_ho μ a k x) (fun g => ?_) rfl K
  obtain ⟨q, -, -, -, hb, -⟩ := hF
  refine hm_fv_set (fun b hb2 => ?_) (fun j b hj => ?_)
  · rw [hb] at hb2
    cases hb2
    simp [hm_f1, hm_wI, hm_u, hm_cv]
  · simp [hm_f1, hm_wI, hm_u, hj]
theorem tr_putR {a ix ci k : Nat} {ty : FieldType} {x : Option Nat} (hF : hm_Fl d.1.cls ix ci k true ty false) (hd : decode d.2.1 pc = .ok (.putfield ix, 3)) (hp : pc + 3 = pc') (ha : hm_at μ a ci) (hn : ∀ y : Option Nat, narrow ty (va_rf y) = va_rf y ∧ fits ty (va_rf y) = true) (K : hm_T Λ d fr kc ks r μ' pc' lv st (hm_wR μ a k x)) : hm_T Λ d fr kc ks r μ' pc lv (va_rf x :: .ref a :: st) μ := by
  subst hp
  refine hm_put (μ2 := hm_wR μ a k x) hF hd ha (v := va_rf x) (fun g => by rw [hm_cv_rf]; exact (hn _).1) (fun g => by rw [hm_cv_rf]; exact (hn _).2) rfl (hm_wR_ho μ a k x) (fun g => ?_) rfl K
  obtain ⟨q, -, -, -, hb, -⟩ := hF
  refine hm_fv_set (fun b hb2 => ?_) (fun j b hj => ?_)
  · rw [hb] at hb2
    cases hb2
    rw [hm_cv_rf]
    simp [hm_f1, hm_wR, hm_u]
  · simp [hm_f1, hm_wR, hm_u, hj]
end HMH
