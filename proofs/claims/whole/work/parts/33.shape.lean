/-! Constructors: the shape of what was made; a row of rows. -/
def hm_sh (μ : hm_M) (o n : Nat) (ks : List (Nat × Nat)) : Prop := 64 ≤ o ∧ hm_nx μ = n ∧ n = o + ks.length ∧ ∀ (i : Nat) (q : Nat × Nat), ks[i]? = some q → hm_kd μ (o + i) = q.1 ∧ hm_ln μ (o + i) = q.2
section HSH
variable {μ μ1 : hm_M} {o n n' : Nat} {ks : List (Nat × Nat)}
theorem sh_nx (h : hm_sh μ o n ks) : hm_nx μ = n := h.2.1
theorem sh_al {k L : Nat} (h : hm_sh μ o n ks) (e : n + 1 = n') : hm_sh (hm_al μ k L) o n' (ks ++ [(k, L)]) := by
  obtain ⟨h1, h2, h3, h4⟩ := h
  subst e
  refine ⟨h1, by show hm_nx μ + 1 = n + 1; rw [h2], by rw [List.length_append]; show n + 1 = o + (ks.length + 1); omega, fun i q hq => ?_⟩
  have hn : hm_nx μ = o + ks.length := by omega
  show (if o + i = hm_nx μ then k else hm_kd μ (o + i)) = q.1 ∧ (if o + i = hm_nx μ then L else hm_ln μ (o + i)) = q.2
  by_cases hi : i < ks.length
  · rw [List.getElem?_append_left hi] at hq
    have := h4 i q hq
    have ne : o + i ≠ hm_nx μ := by omega
    rw [if_neg ne, if_neg ne]
    exact this
  · have hl := (List.getElem?_eq_some_iff.mp hq).1
    rw [List.length_append] at hl
    have hl : i < ks.length + 1 := hl
    have e : i = ks.length := by omega
    subst e
    rw [List.getElem?_append_right (Nat.le_refl _), Nat.sub_self] at hq
    cases hq
    rw [if_pos hn.symm, if_pos hn.symm]
    exact ⟨rfl, rfl⟩
theorem sh_at {i a c L : Nat} (h : hm_sh μ o n ks) (hi : ks[i]? = some (c, L)) (e : o + i = a) : hm_at μ a c := by
  subst e
  obtain ⟨h1, h2, h3, h4⟩ := h
  have hl := (List.getElem?_eq_some_iff.mp hi).1
  exact ⟨by omega, by show o + i < hm_nx μ; omega, (h4 i _ hi).1⟩
theorem sh_ar {i a c L : Nat} (h : hm_sh μ o n ks) (hi : ks[i]? = some (c, L)) (e : o + i = a) : hm_ar μ a c L := by
  subst e
  obtain ⟨h1, h2, h3, h4⟩ := h
  have hl := (List.getElem?_eq_some_iff.mp hi).1
  exact ⟨by omega, by show o + i < hm_nx μ; omega, (h4 i _ hi).1, (h4 i _ hi).2⟩
theorem sh_same (h : hm_sh μ o n ks) (e : μ1.2.2.2 = μ.2.2.2) : hm_sh μ1 o n ks := by
  obtain ⟨h1, h2, h3, h4⟩ := h
  refine ⟨h1, ?_, h3, fun i q hq => ?_⟩
  · show μ1.2.2.2.1 = n
    rw [e]; exact h2
  · show μ1.2.2.2.2.1 (o + i) = q.1 ∧ μ1.2.2.2.2.2 (o + i) = q.2
    rw [e]; exact h4 i q hq
theorem sh_wR {a j : Nat} {v : Option Nat} (h : hm_sh μ o n ks) : hm_sh (hm_wR μ a j v) o n ks := sh_same h rfl
theorem sh_wI {a j : Nat} {v : Int32} (h : hm_sh μ o n ks) : hm_sh (hm_wI μ a j v) o n ks := sh_same h rfl
theorem sh_cX {f : Nat → Int32} {a1 : Nat} {sp dp n1 : Int32} (h : hm_sh μ o n ks) : hm_sh (hm_cX μ f a1 sp dp n1) o n ks := sh_same h rfl
theorem rf_wI {a j b i : Nat} {v : Int32} {x : Option Nat} (h : μ.2.2.1 a j = x) : (hm_wI μ b i v).2.2.1 a j = x := h
theorem rf_cX {a j : Nat} {f : Nat → Int32} {a1 : Nat} {sp dp n1 : Int32} {x : Option Nat} (h : μ.2.2.1 a j = x) : (hm_cX μ f a1 sp dp n1).2.2.1 a j = x := h
theorem rf_wSh {a j : Nat} {v : Option Nat} (_ : hm_sh (hm_wR μ a j v) o n ks) : (hm_wR μ a j v).2.2.1 a j = v := if_pos ⟨rfl, rfl⟩
theorem sh_last {q : Nat × Nat} {a : Nat} (h : hm_sh μ o n (ks ++ [q])) (e : a + 1 = n) : hm_sh μ a n [q] := by
  obtain ⟨h1, h2, h3, h4⟩ := h
  have hl : (ks ++ [q]).length = ks.length + 1 := by simp
  have ea : a = o + ks.length := by omega
  subst ea
  refine ⟨by omega, h2, by show n = o + ks.length + 1; omega, fun i q' hq => ?_⟩
  have hi := (List.getElem?_eq_some_iff.mp hq).1
  have hi : i < 1 := hi
  have e0 : i = 0 := by omega
  subst e0
  cases hq
  exact h4 ks.length q (by simp)
end HSH
theorem rf_of {μ : hm_M} {a j b : Nat} (h : μ.2.2.1 a j = some b) : va_rf (μ.2.2.1 a j) = .ref b := by rw [h]; rfl
theorem rf_al {μ : hm_M} {a j n k L : Nat} {x : Option Nat} (hn : hm_nx μ = n) (h : μ.2.2.1 a j = x) (e : a < n) : (hm_al μ k L).2.2.1 a j = x := by
  show (if a = hm_nx μ then (fun _ => none) else μ.2.2.1 a) j = x
  rw [if_neg (by omega)]
  exact h
theorem rf_wS {μ : hm_M} {a j : Nat} {v : Option Nat} : (hm_wR μ a j v).2.2.1 a j = v := if_pos ⟨rfl, rfl⟩
theorem rf_wR {μ : hm_M} {a j b i : Nat} {v x : Option Nat} (h : μ.2.2.1 a j = x) (e : ¬ (a = b ∧ j = i)) : (hm_wR μ b i v).2.2.1 a j = x := by
  show (if a = b ∧ j = i then v else μ.2.2.1 a j) = x
  rw [if_neg e]
  exact h
/-- a row of rows, made at once -/
def hm_mu (μ : hm_M) (N K : Nat) : hm_M := ((fun b => if hm_nx μ ≤ b then fun _ => 0 else μ.1 b), (fun b => if hm_nx μ ≤ b then fun _ => 0 else μ.2.1 b), (fun b => if hm_nx μ ≤ b then (fun j => if b = hm_nx μ ∧ j < N then some (hm_nx μ + 1 + j) else none) else μ.2.2.1 b), hm_nx μ + 1 + N, (fun b => if hm_nx μ ≤ b then (if b = hm_nx μ then 18 else 13) else hm_kd μ b), (fun b => if hm_nx μ ≤ b then (if b = hm_nx μ then N else K) else hm_ln μ b))
theorem hm_mu_en {g : hm_G} {μ : hm_M} {N K b : Nat} (h : ¬ hm_nx μ ≤ b) : hm_en g (hm_mu μ N K) b = hm_en g μ b := by
  have h1 : (hm_mu μ N K).1 b = μ.1 b := if_neg h
  have h2 : (hm_mu μ N K).2.1 b = μ.2.1 b := if_neg h
  have h3 : (hm_mu μ N K).2.2.1 b = μ.2.2.1 b := if_neg h
  have h4 : hm_kd (hm_mu μ N K) b = hm_kd μ b := if_neg h
  have h5 : hm_ln (hm_mu μ N K) b = hm_ln μ b := if_neg h
  unfold hm_en hm_pl
  rw [h4, h5, h1, h2, h3, hm_fv_congr h1 h3]
theorem rf_mu {μ : hm_M} {a j n N K : Nat} {x : Option Nat} (hn : hm_nx μ = n) (h : μ.2.2.1 a j = x) (e : a < n) : (hm_mu μ N K).2.2.1 a j = x := by
  show (if hm_nx μ ≤ a then (fun j => if a = hm_nx μ ∧ j < N then some (hm_nx μ + 1 + j) else none) else μ.2.2.1 a) j = x
  rw [if_neg (by omega)]
  exact h
section HMU
variable {Λ Λ1 : hm_M → Prop} {d d1 : hm_D} {fr fr1 kc kc1 ks ks1 : Nat} {r : Option Value} {μ μ1 μ' : hm_M} {pc pc' : Nat} {lv : List (Option Value)} {st st0 : List Value}
theorem tn_newN {n ix ci N : Nat} {C : String} {T : u_T} (hN : hm_nx μ = n) (hKl : hm_Kl ci (C, T, N)) (ty : Nat → FieldType) (hty : ∀ k, k < N → parseFieldDescriptor (T k).2.2.1 = some (ty k)) (hdf : ∀ j, j < N → defaultValue (ty j) = vp_V ((hm_fT ci).map (fun b => if b = true then Value.null else .int 0)) j) (h1 : Cond.classLink d.1.cls ix C ∈ hm_tb) (h2 : Cond.instantiable C N ∈ hm_tb) (h3 : Cond.initialized C ∈ hm_tb) (hd : decode d.2.1 pc = .ok (.new ix, 3)) (hp : pc + 3 = pc') (hk : 1 ≤ kc) (hs : N ≤ ks) (K : hm_T Λ d fr (kc - 1) (ks - N) r μ' pc' lv (.ref n :: st) (hm_al μ ci N)) : hm_T Λ d fr kc ks r μ' pc lv st μ := by
  subst hN
  obtain ⟨hc, hlt, hin, hN, -, -⟩ := hKl
  refine hm_new hk hs hp (fun l g p e R s m args below meth c H locs cells slots Q ls C0 w q1 q2 kk => ?_) K
  have hts := C0.2.2.2.2.2.2.2.1
  have hKn := C0.2.2.2.2.2.2.2.2.1.1 ci _ hc
  refine W.newcK C0.1 C0.2.1 C0.2.2.2.2.2.1 (hts _ h1) (hts _ h2) (hts _ h3) rfl hd q1 q2 hKn.2.1 rfl fun H1 kC hkC e1 z1 o1 => kk H1 z1 o1 ?_
  rw [hm_en_obj (show hm_kd (hm_al μ ci N) (hm_nx μ) = ci from if_pos rfl) hlt, hm_fv_al]
  exact ⟨_, hc, (u_born ty hts hin hKn hkC e1 hty).to hdf⟩
theorem tn_multi {n ix N K : Nat} {x y : Int32} (hN : hm_nx μ = n) (hw1 : Cond.classLink d.1.cls ix "[[I" ∈ hm_tb) (hw2 : Cond.arrayClass .int ∈ hm_tb) (hx : ¬ x < 0) (hy : ¬ y < 0) (hxN : x.toNatClampNeg = N) (hyK : y.toNatClampNeg = K) (hb1 : N * 4 ≤ 536870912) (hb2 : K * 4 ≤ 536870912) (hd : decode d.2.1 pc = .ok (.multianewarray ix 2, 4)) (hp : pc + 4 = pc') (hk : 1 + N ≤ kc) (hs : N + N * K ≤ ks) (KK : hm_T Λ d fr (kc - (1 + N)) (ks - (N + N * K)) r μ' pc' lv (.ref n :: st) (hm_mu μ N K)) : hm_T Λ d fr kc ks r μ' pc lv (.int y :: .int x :: st) μ := by
  subst hN
  subst hp
  refine ⟨KK.1, fun l g p e s m args below meth c H locs cells slots mc ms ls C w S L0 q1 q2 => ?_⟩
  have hts := C.2.2.2.2.2.2.2.1
  refine mu_mna (ty := .int) C.1 C.2.1 C.2.2.2.2.2.1 (hts _ hw1) (C.2.2.2.2.2.2.2.2.2.1.2.2.2.2.2.2) (hts _ hw2) hx hy hxN hyK hb1 hb2 (by omega) rfl rfl (by show cells + (1 + N) ≤ mc; omega) (by show slots + (N + N * K) ≤ ms; omega) hd fun cA cy H1 fA fC z1 o1 e1 e2 => ?_
  have g18 := (C.2.2.2.2.2.2.2.2.1.2 7 (g.2.1 18, .array .int) rfl).2
  have g13 := (C.2.2.2.2.2.2.2.2.1.2 2 (g.2.1 13, .int) rfl).2
  have eA : cA = g.2.1 18 := Option.some.inj (fA.symm.trans g18)
  have ey : cy = g.2.1 13 := Option.some.inj (fC.symm.trans g13)
  subst eA
  subst ey
  have h64 := w.1
  have hsz := w.2.1
  have ad : ∀ j : Nat, hm_ad g (hm_nx μ + 1 + j) = H.size + 1 + j := fun j => by
    rw [hm_ad_hi (by omega), hsz]
    unfold hm_ra
    omega
  have w2 : hm_W g (hm_mu μ N K) H1 := by
    refine ⟨by show 64 ≤ hm_nx μ + 1 + N; omega, ?_, fun a ha1 ha2 => ?_⟩
    · rw [z1, hsz]
      show hm_ra g (hm_nx μ) + 1 + N = hm_ra g (hm_nx μ + 1 + N)
      unfold hm_ra
      omega
    · have ha2 : a < hm_nx μ + 1 + N := ha2
      by_cases hlt : hm_nx μ ≤ a
      · by_cases e0 : a = hm_nx μ
        · subst e0
          have k1 : hm_kd (hm_mu μ N K) (hm_nx μ) = 18 := by
            show (if hm_nx μ ≤ hm_nx μ then (if hm_nx μ = hm_nx μ then 18 else 13) else hm_kd μ (hm_nx μ)) = 18
            rw [if_pos (Nat.le_refl _), if_pos rfl]
          have k2 : hm_ln (hm_mu μ N K) (hm_nx μ) = N := by
            show (if hm_nx μ ≤ hm_nx μ then (if hm_nx μ = hm_nx μ then N else K) else hm_ln μ (hm_nx μ)) = N
            rw [if_pos (Nat.le_refl _), if_pos rfl]
          have k5 : (hm_mu μ N K).2.2.1 (hm_nx μ) = fun j => if j < N then some (hm_nx μ + 1 + j) else none := by
            show (if hm_nx μ ≤ hm_nx μ then (fun j => if hm_nx μ = hm_nx μ ∧ j < N then some (hm_nx μ + 1 + j) else none) else μ.2.2.1 (hm_nx μ)) = _
            rw [if_pos (Nat.le_refl _)]
            funext j
            simp
          rw [hm_en_ref k1 (by decide), k2, k5]
          show H1[hm_ra g (hm_nx μ)]? = some (vp_cell (g.2.1 18) (N, .inr (.inr (.inr (.inr (fun i => (if i < N then some (hm_nx μ + 1 + i) else none).map (hm_ad g)))))))
          rw [← hsz, e1, vp_cell_q]
          refine congrArg some (congrArg (arrV (g.2.1 18) N) (funext fun j => congrArg va_rf ?_))
          by_cases hj : j < N
          · rw [if_pos hj, if_pos hj, Option.map_some, ad j]
          · rw [if_neg hj, if_neg hj]
            rfl
        · have hj : ∃ j, a = hm_nx μ + 1 + j ∧ j < N := ⟨a - (hm_nx μ + 1), by omega, by omega⟩
          obtain ⟨j, rfl, hj⟩ := hj
          have k1 : hm_kd (hm_mu μ N K) (hm_nx μ + 1 + j) = 13 := by
            show (if hm_nx μ ≤ hm_nx μ + 1 + j then (if hm_nx μ + 1 + j = hm_nx μ then 18 else 13) else hm_kd μ (hm_nx μ + 1 + j)) = 13
            rw [if_pos hlt, if_neg e0]
          have k2 : hm_ln (hm_mu μ N K) (hm_nx μ + 1 + j) = K := by
            show (if hm_nx μ ≤ hm_nx μ + 1 + j then (if hm_nx μ + 1 + j = hm_nx μ then N else K) else hm_ln μ (hm_nx μ + 1 + j)) = K
            rw [if_pos hlt, if_neg e0]
          have k3 : (hm_mu μ N K).1 (hm_nx μ + 1 + j) = fun _ => 0 := if_pos hlt
          rw [hm_en_int k1 (by decide) (by decide) (by decide), k2, k3]
          show H1[hm_ra g (hm_nx μ + 1 + j)]? = some (vp_cell (g.2.1 13) (K, .inl (fun _ => 0)))
          rw [show hm_ra g (hm_nx μ + 1 + j) = H.size + 1 + j by rw [hsz]; unfold hm_ra; omega, e2 j hj]
          rfl
      · rw [hm_mu_en hlt]
        refine va_at.kept (w.2.2 a ha1 (by omega)) (o1 _ ?_)
        rw [hsz]
        show hm_ra g a < hm_ra g (hm_nx μ)
        unfold hm_ra
        omega
  have kk := KK.2 l g p e s m args below meth c H1 locs (cells + 1 + N) (slots + N + N * K) mc ms ls C w2 ⟨Nat.le_trans S.1 (by omega), fun q g1 g2 => by rw [o1 q (Nat.lt_of_lt_of_le g1 S.1)]; exact S.2.1 q g1 g2, S.2.2⟩ L0 (by omega) (by omega)
  have e2 : hm_cv g (.ref (hm_nx μ)) = .ref H.size := by
    show Value.ref (hm_ad g (hm_nx μ)) = _
    rw [hm_ad_hi w.1, ← w.2.1]
  rw [List.map_cons, e2] at kk
  exact kk
end HMU
theorem sh_mu {μ : hm_M} {o n n' N K : Nat} {ks : List (Nat × Nat)} (h : hm_sh μ o n ks) (e : n + 1 + N = n') : hm_sh (hm_mu μ N K) o n' (ks ++ [(18, N)] ++ List.replicate N (13, K)) := by
  obtain ⟨h1, h2, h3, h4⟩ := h
  subst e
  refine ⟨h1, by show hm_nx μ + 1 + N = n + 1 + N; rw [h2], by simp; omega, fun i q hq => ?_⟩
  show (if hm_nx μ ≤ o + i then (if o + i = hm_nx μ then 18 else 13) else hm_kd μ (o + i)) = q.1 ∧ (if hm_nx μ ≤ o + i then (if o + i = hm_nx μ then N else K) else hm_ln μ (o + i)) = q.2
  by_cases hi : i < ks.length
  · rw [List.append_assoc, List.getElem?_append_left hi] at hq
    have hA : ¬ hm_nx μ ≤ o + i := by omega
    rw [if_neg hA, if_neg hA]
    exact h4 i q hq
  · have hA : hm_nx μ ≤ o + i := by omega
    rw [if_pos hA, if_pos hA]
    by_cases e : i = ks.length
    · subst e
      rw [List.append_assoc, List.getElem?_append_right (Nat.le_refl _), Nat.sub_self] at hq
      cases hq
      have hB : o + ks.length = hm_nx μ := by omega
      rw [if_pos hB, if_pos hB]
      exact ⟨rfl, rfl⟩
    · have hB : ¬ o + i = hm_nx μ := by omega
      rw [if_neg hB, if_neg hB]
      have hl : (ks ++ [(18, N)]).length = ks.length + 1 := by simp
      rw [List.getElem?_append_right (by omega), List.getElem?_replicate] at hq
      split at hq
      · cases hq
        exact ⟨rfl, rfl⟩
      · cases hq
