/-! Rows: loads, stores, lengths; returns. -/
section HMA
variable {Λ : hm_M → Prop} {d : hm_D} {fr kc ks : Nat} {r : Option Value} {μ μ' : hm_M} {pc pc' : Nat} {lv : List (Option Value)} {st st' : List Value}
theorem tr_iald {a L : Nat} {i : Int32} (hd : decode d.2.1 pc = .ok (.iaload, 1)) (hp : pc + 1 = pc') (ha : hm_ar μ a 13 L) (hin : ¬ (i < 0 ∨ L ≤ i.toNatClampNeg)) (K : hm_T Λ d fr kc ks r μ' pc' lv (.int (μ.1 a i.toNatClampNeg) :: st) μ) : hm_T Λ d fr kc ks r μ' pc lv (.int i :: .ref a :: st) μ := by
  subst hp
  refine hm_go (fun l g p e R s m args below meth c H locs cells slots Q ls C w0 S L0 w => ?_) K
  show W p l e R s m args below meth c H locs cells slots Q (F0 m pc ls (.int i :: .ref (hm_ad g a) :: st.map (hm_cv g)))
  rw [hm_ad_hi ha.1]
  exact va_iald C.1 C.2.1 C.2.2.2.2.2.2.2.2.1 (w0.one ha.1 ha.2.1) 0 2 (by rw [hm_en_int ha.2.2.1 (by decide) (by decide) (by decide)]; rfl) rfl (by rw [ha.2.2.2]; exact hin) hd w
theorem tr_bald {a L : Nat} {i : Int32} (hd : decode d.2.1 pc = .ok (.baload, 1)) (hp : pc + 1 = pc') (ha : hm_ar μ a 11 L) (hin : ¬ (i < 0 ∨ L ≤ i.toNatClampNeg)) (K : hm_T Λ d fr kc ks r μ' pc' lv (.int (μ.1 a i.toNatClampNeg) :: st) μ) : hm_T Λ d fr kc ks r μ' pc lv (.int i :: .ref a :: st) μ := by
  subst hp
  refine hm_go (fun l g p e R s m args below meth c H locs cells slots Q ls C w0 S L0 w => ?_) K
  show W p l e R s m args below meth c H locs cells slots Q (F0 m pc ls (.int i :: .ref (hm_ad g a) :: st.map (hm_cv g)))
  rw [hm_ad_hi ha.1]
  exact va_bald C.1 C.2.1 C.2.2.2.2.2.2.2.2.1 (w0.one ha.1 ha.2.1) 0 0 (by rw [hm_en_int ha.2.2.1 (by decide) (by decide) (by decide)]; rfl) rfl (by rw [ha.2.2.2]; exact hin) hd w
theorem tr_zald {a L : Nat} {i : Int32} (hd : decode d.2.1 pc = .ok (.baload, 1)) (hp : pc + 1 = pc') (ha : hm_ar μ a 15 L) (hin : ¬ (i < 0 ∨ L ≤ i.toNatClampNeg)) (K : hm_T Λ d fr kc ks r μ' pc' lv (.int (μ.1 a i.toNatClampNeg) :: st) μ) : hm_T Λ d fr kc ks r μ' pc lv (.int i :: .ref a :: st) μ := by
  subst hp
  refine hm_go (fun l g p e R s m args below meth c H locs cells slots Q ls C w0 S L0 w => ?_) K
  show W p l e R s m args below meth c H locs cells slots Q (F0 m pc ls (.int i :: .ref (hm_ad g a) :: st.map (hm_cv g)))
  rw [hm_ad_hi ha.1]
  exact va_zald C.1 C.2.1 C.2.2.2.2.2.2.2.2.1 (w0.one ha.1 ha.2.1) 0 4 (by rw [hm_en_int ha.2.2.1 (by decide) (by decide) (by decide)]; rfl) rfl (by rw [ha.2.2.2]; exact hin) hd w
theorem tr_cald {a L : Nat} {i : Int32} (hd : decode d.2.1 pc = .ok (.caload, 1)) (hp : pc + 1 = pc') (ha : hm_ar μ a 12 L) (hin : ¬ (i < 0 ∨ L ≤ i.toNatClampNeg)) (K : hm_T Λ d fr kc ks r μ' pc' lv (.int (μ.1 a i.toNatClampNeg) :: st) μ) : hm_T Λ d fr kc ks r μ' pc lv (.int i :: .ref a :: st) μ := by
  subst hp
  refine hm_go (fun l g p e R s m args below meth c H locs cells slots Q ls C w0 S L0 w => ?_) K
  show W p l e R s m args below meth c H locs cells slots Q (F0 m pc ls (.int i :: .ref (hm_ad g a) :: st.map (hm_cv g)))
  rw [hm_ad_hi ha.1]
  exact va_cald C.1 C.2.1 C.2.2.2.2.2.2.2.2.1 (w0.one ha.1 ha.2.1) 0 1 (by rw [hm_en_int ha.2.2.1 (by decide) (by decide) (by decide)]; rfl) rfl (by rw [ha.2.2.2]; exact hin) hd w
theorem tr_lald {a L : Nat} {i : Int32} (hd : decode d.2.1 pc = .ok (.laload, 1)) (hp : pc + 1 = pc') (ha : hm_ar μ a 14 L) (hin : ¬ (i < 0 ∨ L ≤ i.toNatClampNeg)) (K : hm_T Λ d fr kc ks r μ' pc' lv (.long (μ.2.1 a i.toNatClampNeg) :: st) μ) : hm_T Λ d fr kc ks r μ' pc lv (.int i :: .ref a :: st) μ := by
  subst hp
  refine hm_go (fun l g p e R s m args below meth c H locs cells slots Q ls C w0 S L0 w => ?_) K
  show W p l e R s m args below meth c H locs cells slots Q (F0 m pc ls (.int i :: .ref (hm_ad g a) :: st.map (hm_cv g)))
  rw [hm_ad_hi ha.1]
  exact va_lald C.1 C.2.1 C.2.2.2.2.2.2.2.2.1 (w0.one ha.1 ha.2.1) 0 3 (by rw [hm_en_long ha.2.2.1]; rfl) rfl (by rw [ha.2.2.2]; exact hin) hd w
theorem tr_aald {a L kd t0 : Nat} {ty : FieldType} {i : Int32} (hk : 16 ≤ kd) (ht : ∀ g, (hm_tys g)[t0]? = some (g.2.1 kd, ty)) (hty : ty.isReference = true) (hd : decode d.2.1 pc = .ok (.aaload, 1)) (hp : pc + 1 = pc') (ha : hm_ar μ a kd L) (hin : ¬ (i < 0 ∨ L ≤ i.toNatClampNeg)) {v : Value} (hv : va_rf (μ.2.2.1 a i.toNatClampNeg) = v) (K : hm_T Λ d fr kc ks r μ' pc' lv (v :: st) μ) : hm_T Λ d fr kc ks r μ' pc lv (.int i :: .ref a :: st) μ := by
  subst hp
  subst hv
  refine hm_go (fun l g p e R s m args below meth c H locs cells slots Q ls C w0 S L0 w => ?_) K
  show W p l e R s m args below meth c H locs cells slots Q (F0 m pc ls (.int i :: .ref (hm_ad g a) :: st.map (hm_cv g)))
  rw [hm_ad_hi ha.1]
  rw [List.map_cons, hm_cv_rf] at w
  have hlt : i.toNatClampNeg < L := Nat.not_le.mp fun q => hin (Or.inr q)
  have hc : H[hm_ra g a]? = some (vp_cell (g.2.1 kd) (L, .inr (.inr (.inr (.inr (fun i => (μ.2.2.1 a i).map (hm_ad g))))))) := by
    have := w0.2.2 a ha.1 ha.2.1
    rw [hm_en_ref ha.2.2.1 hk, ha.2.2.2] at this
    exact this
  exact W.aald (v := va_rf ((μ.2.2.1 a i.toNatClampNeg).map (hm_ad g))) (ty := ty) C.1 C.2.1 hc ((C.2.2.2.2.2.2.2.2.1.2 t0 _ (ht g)).1 L (fun j => va_rf ((μ.2.2.1 a j).map (hm_ad g)))) hty (fun q => by cases q) (by show ¬ (i < 0 ∨ (arrV _ _ _).slots.size ≤ _); rw [arrV_size]; exact hin) (by show (arrV _ _ _).slots[_]? = _; rw [arrV_read _ _ hlt]) rfl rfl hd w
theorem tr_alen {a L kd t0 : Nat} {ty : FieldType} (hk : 11 ≤ kd) (ht : ∀ g, (hm_tys g)[t0]? = some (g.2.1 kd, ty)) (hd : decode d.2.1 pc = .ok (.arraylength, 1)) (hp : pc + 1 = pc') (ha : hm_ar μ a kd L) (K : hm_T Λ d fr kc ks r μ' pc' lv (.int (Int32.ofNat L) :: st) μ) : hm_T Λ d fr kc ks r μ' pc lv (.ref a :: st) μ := by
  subst hp
  refine hm_go (fun l g p e R s m args below meth c H locs cells slots Q ls C w0 S L0 w => ?_) K
  show W p l e R s m args below meth c H locs cells slots Q (F0 m pc ls (.ref (hm_ad g a) :: st.map (hm_cv g)))
  rw [hm_ad_hi ha.1]
  exact va_alen C.1 C.2.1 C.2.2.2.2.2.2.2.2.1 (w0.one ha.1 ha.2.1) 0 t0 (x := hm_pl g μ a) (by unfold hm_en; rw [ha.2.2.1, if_neg (by omega)]; rfl) (ht g) (by show Int32.ofNat (hm_ln μ a) = _; rw [ha.2.2.2]) hd w
theorem tr_iast {a L : Nat} {i x : Int32} (hd : decode d.2.1 pc = .ok (.iastore, 1)) (hp : pc + 1 = pc') (ha : hm_ar μ a 13 L) (hin : ¬ (i < 0 ∨ L ≤ i.toNatClampNeg)) (K : hm_T Λ d fr kc ks r μ' pc' lv st (hm_wI μ a i.toNatClampNeg x)) : hm_T Λ d fr kc ks r μ' pc lv (.int x :: .int i :: .ref a :: st) μ := by
  subst hp
  refine hm_set (μ2 := hm_wI μ a i.toNatClampNeg x) ha.1 ha.2.1 rfl (hm_wI_ho μ a i.toNatClampNeg x) (fun l g p e R s m args below meth c H locs cells slots Q ls C w0 kk => ?_) K
  show W p l e R s m args below meth c H locs cells slots Q (F0 m pc ls (.int x :: .int i :: .ref (hm_ad g a) :: st.map (hm_cv g)))
  rw [hm_ad_hi ha.1]
  have hc : H[hm_ra g a]? = some (vp_cell (g.2.1 13) (L, .inl (μ.1 a))) := by
    have := w0.2.2 a ha.1 ha.2.1
    rw [hm_en_int ha.2.2.1 (by decide) (by decide) (by decide), ha.2.2.2] at this
    exact this
  refine W.iast C.1 C.2.1 hc ((C.2.2.2.2.2.2.2.2.1.2 2 (g.2.1 13, _) rfl).1 L (fun j => .int (μ.1 a j))) (fun q => by cases q) (by show ¬ (i < 0 ∨ (arrV _ _ _).slots.size ≤ _); rw [arrV_size]; exact hin) rfl rfl hd fun H1 e z oq => kk H1 _ z oq ?_
  rw [hm_en_int (show hm_kd (hm_wI μ a i.toNatClampNeg x) a = 13 from ha.2.2.1) (by decide) (by decide) (by decide)]
  show H1[hm_ra g a]? = some (vp_cell (g.2.1 13) (hm_ln μ a, .inl (hm_u μ.1 a i.toNatClampNeg x a)))
  rw [e, ha.2.2.2, vp_cell_i, vp_cell_i, arrV_store]
  congr 2
  funext q
  by_cases hq : q = i.toNatClampNeg
  · subst hq
    simp [updV, hm_u, vp_nar]
    try rfl
  · simp [updV, hm_u, hq]
theorem tr_bast {a L : Nat} {i x : Int32} (hd : decode d.2.1 pc = .ok (.bastore, 1)) (hp : pc + 1 = pc') (ha : hm_ar μ a 11 L) (hin : ¬ (i < 0 ∨ L ≤ i.toNatClampNeg)) (K : hm_T Λ d fr kc ks r μ' pc' lv st (hm_wI μ a i.toNatClampNeg (vp_nar .byte x))) : hm_T Λ d fr kc ks r μ' pc lv (.int x :: .int i :: .ref a :: st) μ := by
  subst hp
  refine hm_set (μ2 := hm_wI μ a i.toNatClampNeg (vp_nar .byte x)) ha.1 ha.2.1 rfl (hm_wI_ho μ a i.toNatClampNeg (vp_nar .byte x)) (fun l g p e R s m args below meth c H locs cells slots Q ls C w0 kk => ?_) K
  show W p l e R s m args below meth c H locs cells slots Q (F0 m pc ls (.int x :: .int i :: .ref (hm_ad g a) :: st.map (hm_cv g)))
  rw [hm_ad_hi ha.1]
  have hc : H[hm_ra g a]? = some (vp_cell (g.2.1 11) (L, .inl (μ.1 a))) := by
    have := w0.2.2 a ha.1 ha.2.1
    rw [hm_en_int ha.2.2.1 (by decide) (by decide) (by decide), ha.2.2.2] at this
    exact this
  refine W.bast C.1 C.2.1 hc ((C.2.2.2.2.2.2.2.2.1.2 0 (g.2.1 11, _) rfl).1 L (fun j => .int (μ.1 a j))) (fun q => by cases q) (by show ¬ (i < 0 ∨ (arrV _ _ _).slots.size ≤ _); rw [arrV_size]; exact hin) rfl rfl hd fun H1 e z oq => kk H1 _ z oq ?_
  rw [hm_en_int (show hm_kd (hm_wI μ a i.toNatClampNeg (vp_nar .byte x)) a = 11 from ha.2.2.1) (by decide) (by decide) (by decide)]
  show H1[hm_ra g a]? = some (vp_cell (g.2.1 11) (hm_ln μ a, .inl (hm_u μ.1 a i.toNatClampNeg (vp_nar .byte x) a)))
  rw [e, ha.2.2.2, vp_cell_i, vp_cell_i, arrV_store]
  congr 2
  funext q
  by_cases hq : q = i.toNatClampNeg
  · subst hq
    simp [updV, hm_u, vp_nar]
    try rfl
  · simp [updV, hm_u, hq]
theorem tr_zast {a L : Nat} {i x : Int32} (hd : decode d.2.1 pc = .ok (.bastore, 1)) (hp : pc + 1 = pc') (ha : hm_ar μ a 15 L) (hin : ¬ (i < 0 ∨ L ≤ i.toNatClampNeg)) (K : hm_T Λ d fr kc ks r μ' pc' lv st (hm_wI μ a i.toNatClampNeg (vp_nar .boolean x))) : hm_T Λ d fr kc ks r μ' pc lv (.int x :: .int i :: .ref a :: st) μ := by
  subst hp
  refine hm_set (μ2 := hm_wI μ a i.toNatClampNeg (vp_nar .boolean x)) ha.1 ha.2.1 rfl (hm_wI_ho μ a i.toNatClampNeg (vp_nar .boolean x)) (fun l g p e R s m args below meth c H locs cells slots Q ls C w0 kk => ?_) K
  show W p l e R s m args below meth c H locs cells slots Q (F0 m pc ls (.int x :: .int i :: .ref (hm_ad g a) :: st.map (hm_cv g)))
  rw [hm_ad_hi ha.1]
  have hc : H[hm_ra g a]? = some (vp_cell (g.2.1 15) (L, .inl (μ.1 a))) := by
    have := w0.2.2 a ha.1 ha.2.1
    rw [hm_en_int ha.2.2.1 (by decide) (by decide) (by decide), ha.2.2.2] at this
    exact this
  refine W.zast C.1 C.2.1 hc ((C.2.2.2.2.2.2.2.2.1.2 4 (g.2.1 15, _) rfl).1 L (fun j => .int (μ.1 a j))) (fun q => by cases q) (by show ¬ (i < 0 ∨ (arrV _ _ _).slots.size ≤ _); rw [arrV_size]; exact hin) rfl rfl hd fun H1 e z oq => kk H1 _ z oq ?_
  rw [hm_en_int (show hm_kd (hm_wI μ a i.toNatClampNeg (vp_nar .boolean x)) a = 15 from ha.2.2.1) (by decide) (by decide) (by decide)]
  show H1[hm_ra g a]? = some (vp_cell (g.2.1 15) (hm_ln μ a, .inl (hm_u μ.1 a i.toNatClampNeg (vp_nar .boolean x) a)))
  rw [e, ha.2.2.2, vp_cell_i, vp_cell_i, arrV_store]
  congr 2
  funext q
  by_cases hq : q = i.toNatClampNeg
  · subst hq
    simp [updV, hm_u, vp_nar]
    try rfl
  · simp [updV, hm_u, hq]
theorem tr_cast {a L : Nat} {i x : Int32} (hd : decode d.2.1 pc = .ok (.castore, 1)) (hp : pc + 1 = pc') (ha : hm_ar μ a 12 L) (hin : ¬ (i < 0 ∨ L ≤ i.toNatClampNeg)) (K : hm_T Λ d fr kc ks r μ' pc' lv st (hm_wI μ a i.toNatClampNeg (vp_nar .char x))) : hm_T Λ d fr kc ks r μ' pc lv (.int x :: .int i :: .ref a :: st) μ := by
  subst hp
  refine hm_set (μ2 := hm_wI μ a i.toNatClampNeg (vp_nar .char x)) ha.1 ha.2.1 rfl (hm_wI_ho μ a i.toNatClampNeg (vp_nar .char x)) (fun l g p e R s m args below meth c H locs cells slots Q ls C w0 kk => ?_) K
  show W p l e R s m args below meth c H locs cells slots Q (F0 m pc ls (.int x :: .int i :: .ref (hm_ad g a) :: st.map (hm_cv g)))
  rw [hm_ad_hi ha.1]
  have hc : H[hm_ra g a]? = some (vp_cell (g.2.1 12) (L, .inl (μ.1 a))) := by
    have := w0.2.2 a ha.1 ha.2.1
    rw [hm_en_int ha.2.2.1 (by decide) (by decide) (by decide), ha.2.2.2] at this
    exact this
  refine W.cast C.1 C.2.1 hc ((C.2.2.2.2.2.2.2.2.1.2 1 (g.2.1 12, _) rfl).1 L (fun j => .int (μ.1 a j))) (fun q => by cases q) (by show ¬ (i < 0 ∨ (arrV _ _ _).slots.size ≤ _); rw [arrV_size]; exact hin) rfl rfl hd fun H1 e z oq => kk H1 _ z oq ?_
  rw [hm_en_int (show hm_kd (hm_wI μ a i.toNatClampNeg (vp_nar .char x)) a = 12 from ha.2.2.1) (by decide) (by decide) (by decide)]
  show H1[hm_ra g a]? = some (vp_cell (g.2.1 12) (hm_ln μ a, .inl (hm_u μ.1 a i.toNatClampNeg (vp_nar .char x) a)))
  rw [e, ha.2.2.2, vp_cell_i, vp_cell_i, arrV_store]
  congr 2
  funext q
  by_cases hq : q = i.toNatClampNeg
  · subst hq
    simp [updV, hm_u, vp_nar]
    try rfl
  · simp [updV, hm_u, hq]
theorem tr_last {a L : Nat} {i : Int32} {x : Int64} (hd : decode d.2.1 pc = .ok (.lastore, 1)) (hp : pc + 1 = pc') (ha : hm_ar μ a 14 L) (hin : ¬ (i < 0 ∨ L ≤ i.toNatClampNeg)) (K : hm_T Λ d fr kc ks r μ' pc' lv st (hm_wJ μ a i.toNatClampNeg x)) : hm_T Λ d fr kc ks r μ' pc lv (.long x :: .int i :: .ref a :: st) μ := by
  subst hp
  refine hm_set (μ2 := hm_wJ μ a i.toNatClampNeg x) ha.1 ha.2.1 rfl (hm_wJ_ho μ a i.toNatClampNeg x) (fun l g p e R s m args below meth c H locs cells slots Q ls C w0 kk => ?_) K
  show W p l e R s m args below meth c H locs cells slots Q (F0 m pc ls (.long x :: .int i :: .ref (hm_ad g a) :: st.map (hm_cv g)))
  rw [hm_ad_hi ha.1]
  have hc : H[hm_ra g a]? = some (vp_cell (g.2.1 14) (L, .inr (.inl (μ.2.1 a)))) := by
    have := w0.2.2 a ha.1 ha.2.1
    rw [hm_en_long ha.2.2.1, ha.2.2.2] at this
    exact this
  refine W.last C.1 C.2.1 hc ((C.2.2.2.2.2.2.2.2.1.2 3 (g.2.1 14, _) rfl).1 L (fun j => .long (μ.2.1 a j))) (fun q => by cases q) (by show ¬ (i < 0 ∨ (arrV _ _ _).slots.size ≤ _); rw [arrV_size]; exact hin) rfl rfl hd fun H1 e z oq => kk H1 _ z oq ?_
  rw [hm_en_long (show hm_kd (hm_wJ μ a i.toNatClampNeg x) a = 14 from ha.2.2.1)]
  show H1[hm_ra g a]? = some (vp_cell (g.2.1 14) (hm_ln μ a, .inr (.inl (hm_u μ.2.1 a i.toNatClampNeg x a))))
  rw [e, ha.2.2.2, vp_cell_l, vp_cell_l, arrV_store]
  congr 2
  funext q
  by_cases hq : q = i.toNatClampNeg
  · subst hq
    simp [updV, hm_u]
  · simp [updV, hm_u, hq]
theorem tr_aast {a b L kd t0 ci : Nat} {q0 : vw_C} {i : Int32} (hk : 16 ≤ kd) (ht : ∀ g, (hm_tys g)[t0]? = some (g.2.1 kd, .object q0.1)) (hq0 : vwCl[ci]? = some q0) (hci : ci < 11) (hd : decode d.2.1 pc = .ok (.aastore, 1)) (hp : pc + 1 = pc') (ha : hm_ar μ a kd L) (hb : hm_at μ b ci) (hin : ¬ (i < 0 ∨ L ≤ i.toNatClampNeg)) (K : hm_T Λ d fr kc ks r μ' pc' lv st (hm_wR μ a i.toNatClampNeg (some b))) : hm_T Λ d fr kc ks r μ' pc lv (.ref b :: .int i :: .ref a :: st) μ := by
  subst hp
  refine hm_set (μ2 := hm_wR μ a i.toNatClampNeg (some b)) ha.1 ha.2.1 rfl (hm_wR_ho μ a i.toNatClampNeg (some b)) (fun l g p e R s m args below meth c H locs cells slots Q ls C w0 kk => ?_) K
  show W p l e R s m args below meth c H locs cells slots Q (F0 m pc ls (.ref (hm_ad g b) :: .int i :: .ref (hm_ad g a) :: st.map (hm_cv g)))
  rw [hm_ad_hi ha.1]
  have hlt : i.toNatClampNeg < L := Nat.not_le.mp fun q => hin (Or.inr q)
  have h0 : ¬ i < 0 := fun q => hin (Or.inl q)
  have hK := C.2.2.2.2.2.2.2.2.1
  have hc : H[hm_ra g a]? = some (vp_cell (g.2.1 kd) (L, .inr (.inr (.inr (.inr (fun i => (μ.2.2.1 a i).map (hm_ad g))))))) := by
    have := w0.2.2 a ha.1 ha.2.1
    rw [hm_en_ref ha.2.2.1 hk, ha.2.2.2] at this
    exact this
  have he := w0.2.2 b hb.1 hb.2.1
  rw [hm_en_obj hb.2.2 hci] at he
  obtain ⟨r', hr', cellV, g1, g2, g3, -⟩ := he
  have hcls := (hK.1 ci q0 hq0).2
  obtain ⟨kA, comp, k1, k2, k3, -⟩ := (hK.2 t0 _ (ht g)).2
  have hcomp : comp = g.1.1 ci := Option.some.inj (k3.symm.trans hcls.1)
  subst hcomp
  obtain ⟨kC, hkC, -⟩ := hcls.2
  refine W.aast C.1 C.2.1 hc (fun q h => by cases h) (fun h => by cases h) k1 k2 rfl hkC ⟨h0, by show _ < (arrV _ _ _).slots.size; rw [arrV_size]; exact hlt⟩ (by rw [hm_ad_hi hb.1]; exact g1) (fun q h => by rw [g3] at h; cases h) (by rw [g2]; exact hkC) (by rw [g2]; exact va_assign hcls) rfl rfl hd fun H1 e z oq => kk H1 _ z oq ?_
  rw [hm_en_ref (show hm_kd (hm_wR μ a i.toNatClampNeg (some b)) a = kd from ha.2.2.1) hk]
  show H1[hm_ra g a]? = some (vp_cell (g.2.1 kd) (hm_ln μ a, .inr (.inr (.inr (.inr (fun j => (hm_u μ.2.2.1 a i.toNatClampNeg (some b) a j).map (hm_ad g)))))))
  rw [e, ha.2.2.2, vp_cell_q, vp_cell_q, arrV_store]
  congr 2
  funext q
  by_cases hq : q = i.toNatClampNeg
  · subst hq
    simp [updV, hm_u, va_rf]
  · simp [updV, hm_u, hq]
theorem tr_aastN {a L kd t0 : Nat} {E : String} {i : Int32} (hk : 16 ≤ kd) (ht : ∀ g, (hm_tys g)[t0]? = some (g.2.1 kd, .object E)) (hd : decode d.2.1 pc = .ok (.aastore, 1)) (hp : pc + 1 = pc') (ha : hm_ar μ a kd L) (hin : ¬ (i < 0 ∨ L ≤ i.toNatClampNeg)) (K : hm_T Λ d fr kc ks r μ' pc' lv st (hm_wR μ a i.toNatClampNeg none)) : hm_T Λ d fr kc ks r μ' pc lv (.null :: .int i :: .ref a :: st) μ := by
  subst hp
  refine hm_set (μ2 := hm_wR μ a i.toNatClampNeg none) ha.1 ha.2.1 rfl (hm_wR_ho μ a i.toNatClampNeg none) (fun l g p e R s m args below meth c H locs cells slots Q ls C w0 kk => ?_) K
  show W p l e R s m args below meth c H locs cells slots Q (F0 m pc ls (.null :: .int i :: .ref (hm_ad g a) :: st.map (hm_cv g)))
  rw [hm_ad_hi ha.1]
  have hc : H[hm_ra g a]? = some (vp_cell (g.2.1 kd) (L, .inr (.inr (.inr (.inr (fun i => (μ.2.2.1 a i).map (hm_ad g))))))) := by
    have := w0.2.2 a ha.1 ha.2.1
    rw [hm_en_ref ha.2.2.1 hk, ha.2.2.2] at this
    exact this
  refine va_WaastN C.1 C.2.1 hc ((C.2.2.2.2.2.2.2.2.1.2 t0 _ (ht g)).1 L (fun j => va_rf ((μ.2.2.1 a j).map (hm_ad g)))) (fun q => by cases q) (by show ¬ (i < 0 ∨ (arrV _ _ _).slots.size ≤ _); rw [arrV_size]; exact hin) rfl rfl hd fun H1 e z oq => kk H1 _ z oq ?_
  rw [hm_en_ref (show hm_kd (hm_wR μ a i.toNatClampNeg none) a = kd from ha.2.2.1) hk]
  show H1[hm_ra g a]? = some (vp_cell (g.2.1 kd) (hm_ln μ a, .inr (.inr (.inr (.inr (fun j => (hm_u μ.2.2.1 a i.toNatClampNeg none a j).map (hm_ad g)))))))
  rw [e, ha.2.2.2, vp_cell_q, vp_cell_q, arrV_store]
  congr 2
  funext q
  by_cases hq : q = i.toNatClampNeg
  · subst hq
    simp [updV, hm_u, va_rf]
  · simp [updV, hm_u, hq]
theorem tr_iret {x : Int32} (hr : d.2.2.2 = some .int) (hd : decode d.2.1 pc = .ok (.ireturn, 1)) (hL : Λ μ) : hm_T Λ d fr kc ks (some (.int x)) μ pc lv [.int x] μ := by
  refine ⟨hL, fun l g p e s m args below meth c H locs cells slots mc ms ls C w S L h1 h2 => W.widen (k := mc) (n := ms) (by omega) (by omega) ?_⟩
  exact W.iret C.1 C.2.1 (C.2.2.2.1.trans hr) (fun t ht hW => ⟨rfl, by rw [ht]; exact w, S.F ht⟩) S.2.2 hd C.2.2.2.2.1
theorem tr_lret {x : Int64} (hr : d.2.2.2 = some .long) (hd : decode d.2.1 pc = .ok (.lreturn, 1)) (hL : Λ μ) : hm_T Λ d fr kc ks (some (.long x)) μ pc lv [.long x] μ := by
  refine ⟨hL, fun l g p e s m args below meth c H locs cells slots mc ms ls C w S L h1 h2 => W.widen (k := mc) (n := ms) (by omega) (by omega) ?_⟩
  exact W.lret C.1 C.2.1 (C.2.2.2.1.trans hr) (fun t ht hW => ⟨rfl, by rw [ht]; exact w, S.F ht⟩) S.2.2 hd C.2.2.2.2.1
theorem tr_vret (hr : d.2.2.2 = none) (hd : decode d.2.1 pc = .ok (.return_, 1)) (hL : Λ μ) : hm_T Λ d fr kc ks (none) μ pc lv [] μ := by
  refine ⟨hL, fun l g p e s m args below meth c H locs cells slots mc ms ls C w S L h1 h2 => W.widen (k := mc) (n := ms) (by omega) (by omega) ?_⟩
  exact W.vret C.1 C.2.1 (C.2.2.2.1.trans hr) (fun t ht hW => ⟨rfl, by rw [ht]; exact w, S.F ht⟩) S.2.2 hd C.2.2.2.2.1
theorem tr_zret {x : Int32} {ty : FieldType} (hr : d.2.2.2 = some ty) (hn : narrow ty (.int x) = .int x) (hd : decode d.2.1 pc = .ok (.ireturn, 1)) (hL : Λ μ) : hm_T Λ d fr kc ks (some (.int x)) μ pc lv [.int x] μ := by
  refine ⟨hL, fun l g p e s m args below meth c H locs cells slots mc ms ls C w S L h1 h2 => W.widen (k := mc) (n := ms) (by omega) (by omega) ?_⟩
  exact W.zret C.1 C.2.1 (C.2.2.2.1.trans hr) hn (fun t ht hW => ⟨rfl, by rw [ht]; exact w, S.F ht⟩) S.2.2 hd C.2.2.2.2.1
theorem tr_aret {x : Option Nat} {ty : FieldType} (hr : d.2.2.2 = some ty) (hrt : (∃ n, ty = .object n) ∨ ∃ t, ty = .array t) (hd : decode d.2.1 pc = .ok (.areturn, 1)) (hL : Λ μ) : hm_T Λ d fr kc ks (some (va_rf x)) μ pc lv [va_rf x] μ := by
  refine ⟨hL, fun l g p e s m args below meth c H locs cells slots mc ms ls C w S L h1 h2 => W.widen (k := mc) (n := ms) (by omega) (by omega) ?_⟩
  show W p l e (hm_rm fr mc ms) s m args below meth c H locs mc ms (MQ below (hm_Qx g (some (va_rf x)) μ) args s mc ms (hm_A g)) (F0 m pc ls [hm_cv g (va_rf x)])
  rw [hm_cv_rf]
  exact W.aret C.1 C.2.1 (C.2.2.2.1.trans hr) hrt (by cases (x.map (hm_ad g)) with | none => exact Or.inl rfl | some z => exact Or.inr ⟨z, rfl⟩) (fun t ht hW => ⟨(by show Outcome.returned _ = .returned (some (hm_cv g (va_rf x))); rw [hm_cv_rf]), by rw [ht]; exact w, S.F ht⟩) S.2.2 hd C.2.2.2.2.1
end HMA
