/-! What the functions of the methods are made of, and the rules in their words. -/
def hm_fu : Nat := 1000000
def hm_ld (μ : hm_M) (a L : Nat) (i : Int32) : Option Int32 := if i < 0 ∨ L ≤ i.toNatClampNeg then none else some (μ.1 a i.toNatClampNeg)
def hm_ldJ (μ : hm_M) (a L : Nat) (i : Int32) : Option Int64 := if i < 0 ∨ L ≤ i.toNatClampNeg then none else some (μ.2.1 a i.toNatClampNeg)
def hm_ldR (μ : hm_M) (a L : Nat) (i : Int32) : Option (Option Nat) := if i < 0 ∨ L ≤ i.toNatClampNeg then none else some (μ.2.2.1 a i.toNatClampNeg)
def hm_sd (μ : hm_M) (a L : Nat) (i x : Int32) : Option hm_M := if i < 0 ∨ L ≤ i.toNatClampNeg then none else some (hm_wI μ a i.toNatClampNeg x)
def hm_sdJ (μ : hm_M) (a L : Nat) (i : Int32) (x : Int64) : Option hm_M := if i < 0 ∨ L ≤ i.toNatClampNeg then none else some (hm_wJ μ a i.toNatClampNeg x)
def hm_pI (μ : hm_M) (a k : Nat) (x : Int32) : Option hm_M := some (hm_wI μ a k x)
def hm_pZ (μ : hm_M) (a k : Nat) (x : Int32) : Option hm_M := if x = 0 ∨ x = 1 then some (hm_wI μ a k x) else none
def hm_dv (x y : Int32) : Option Int32 := if y = 0 then none else some (x / y)
def hm_rm2 (x y : Int32) : Option Int32 := if y = 0 then none else some (x - x / y * y)
def hm_dvJ (x y : Int64) : Option Int64 := if y = 0 then none else some (x / y)
def hm_rmJ (x y : Int64) : Option Int64 := if y = 0 then none else some (x - x / y * y)
/-- the answer of a method that says yes or no -/
def hm_rz (x : Int32) : Option Int32 := if x = 0 ∨ x = 1 then some x else none
def hm_b2 {α β γ : Type} (o : Option (α × β)) (f : α → β → Option γ) : Option γ := match o with
  | none => none
  | some q => f q.1 q.2
theorem hm_bs {α β : Type} {o : Option α} {f : α → Option β} {r : β} (h : o.bind f = some r) : ∃ x, o = some x ∧ f x = some r := Option.bind_eq_some_iff.mp h
theorem hm_b2s {α β γ : Type} {o : Option (α × β)} {f : α → β → Option γ} {r : γ} (h : hm_b2 o f = some r) : ∃ a b, o = some (a, b) ∧ f a b = some r := by
  unfold hm_b2 at h
  split at h
  · cases h
  · next q => exact ⟨q.1, q.2, rfl, h⟩
theorem hm_is {β : Type} {c : Prop} [Decidable c] {a b : Option β} {r : β} (h : (if c then a else b) = some r) : (c ∧ a = some r) ∨ (¬ c ∧ b = some r) := by
  by_cases hc : c
  · rw [if_pos hc] at h; exact Or.inl ⟨hc, h⟩
  · rw [if_neg hc] at h; exact Or.inr ⟨hc, h⟩
theorem hm_zn {x : Int32} (h : x = 0 ∨ x = 1) : narrow .boolean (.int x) = .int x ∧ fits .boolean (.int x) = true := by
  rcases h with rfl | rfl
  · exact ⟨by decide, by decide⟩
  · exact ⟨by decide, by decide⟩
theorem hm_rzs {x r : Int32} (h : hm_rz x = some r) : x = r ∧ narrow .boolean (.int x) = .int x := by
  unfold hm_rz at h
  rcases hm_is h with ⟨hc, h⟩ | ⟨-, h⟩
  · cases h
    exact ⟨rfl, (hm_zn hc).1⟩
  · cases h
section HMP
variable {Λ : hm_M → Prop} {d : hm_D} {fr kc ks : Nat} {r : Option Value} {μ μ1 μ' : hm_M} {pc pc' : Nat} {lv : List (Option Value)} {st : List Value}
theorem tp_ldI {a L : Nat} {i x : Int32} (hd : decode d.2.1 pc = .ok (.iaload, 1)) (hp : pc + 1 = pc') (ha : hm_ar μ a 13 L) (e : hm_ld μ a L i = some x) (K : hm_T Λ d fr kc ks r μ' pc' lv (.int x :: st) μ) : hm_T Λ d fr kc ks r μ' pc lv (.int i :: .ref a :: st) μ := by
  rcases hm_is e with ⟨-, e⟩ | ⟨hc, e⟩
  · cases e
  · cases e; exact tr_iald hd hp ha hc K
theorem tp_ldB {a L : Nat} {i x : Int32} (hd : decode d.2.1 pc = .ok (.baload, 1)) (hp : pc + 1 = pc') (ha : hm_ar μ a 11 L) (e : hm_ld μ a L i = some x) (K : hm_T Λ d fr kc ks r μ' pc' lv (.int x :: st) μ) : hm_T Λ d fr kc ks r μ' pc lv (.int i :: .ref a :: st) μ := by
  rcases hm_is e with ⟨-, e⟩ | ⟨hc, e⟩
  · cases e
  · cases e; exact tr_bald hd hp ha hc K
theorem tp_ldC {a L : Nat} {i x : Int32} (hd : decode d.2.1 pc = .ok (.caload, 1)) (hp : pc + 1 = pc') (ha : hm_ar μ a 12 L) (e : hm_ld μ a L i = some x) (K : hm_T Λ d fr kc ks r μ' pc' lv (.int x :: st) μ) : hm_T Λ d fr kc ks r μ' pc lv (.int i :: .ref a :: st) μ := by
  rcases hm_is e with ⟨-, e⟩ | ⟨hc, e⟩
  · cases e
  · cases e; exact tr_cald hd hp ha hc K
theorem tp_ldZ {a L : Nat} {i x : Int32} (hd : decode d.2.1 pc = .ok (.baload, 1)) (hp : pc + 1 = pc') (ha : hm_ar μ a 15 L) (e : hm_ld μ a L i = some x) (K : hm_T Λ d fr kc ks r μ' pc' lv (.int x :: st) μ) : hm_T Λ d fr kc ks r μ' pc lv (.int i :: .ref a :: st) μ := by
  rcases hm_is e with ⟨-, e⟩ | ⟨hc, e⟩
  · cases e
  · cases e; exact tr_zald hd hp ha hc K
theorem tp_ldJ {a L : Nat} {i : Int32} {x : Int64} (hd : decode d.2.1 pc = .ok (.laload, 1)) (hp : pc + 1 = pc') (ha : hm_ar μ a 14 L) (e : hm_ldJ μ a L i = some x) (K : hm_T Λ d fr kc ks r μ' pc' lv (.long x :: st) μ) : hm_T Λ d fr kc ks r μ' pc lv (.int i :: .ref a :: st) μ := by
  rcases hm_is e with ⟨-, e⟩ | ⟨hc, e⟩
  · cases e
  · cases e; exact tr_lald hd hp ha hc K
theorem tp_ldR {a L kd t0 : Nat} {ty : FieldType} {i : Int32} {x : Option Nat} (hk : 16 ≤ kd) (ht : ∀ g, (hm_tys g)[t0]? = some (g.2.1 kd, ty)) (hty : ty.isReference = true) (hd : decode d.2.1 pc = .ok (.aaload, 1)) (hp : pc + 1 = pc') (ha : hm_ar μ a kd L) (e : hm_ldR μ a L i = some x) {v : Value} (hv : va_rf x = v) (K : hm_T Λ d fr kc ks r μ' pc' lv (v :: st) μ) : hm_T Λ d fr kc ks r μ' pc lv (.int i :: .ref a :: st) μ := by
  rcases hm_is e with ⟨-, e⟩ | ⟨hc, e⟩
  · cases e
  · cases e; exact tr_aald hk ht hty hd hp ha hc hv K
theorem tp_sdI {a L : Nat} {i x : Int32} (hd : decode d.2.1 pc = .ok (.iastore, 1)) (hp : pc + 1 = pc') (ha : hm_ar μ a 13 L) (e : hm_sd μ a L i x = some μ1) (K : hm_T Λ d fr kc ks r μ' pc' lv st μ1) : hm_T Λ d fr kc ks r μ' pc lv (.int x :: .int i :: .ref a :: st) μ := by
  rcases hm_is e with ⟨-, e⟩ | ⟨hc, e⟩
  · cases e
  · cases e; exact tr_iast hd hp ha hc K
theorem tp_sdB {a L : Nat} {i x : Int32} (hd : decode d.2.1 pc = .ok (.bastore, 1)) (hp : pc + 1 = pc') (ha : hm_ar μ a 11 L) (e : hm_sd μ a L i (vp_nar .byte x) = some μ1) (K : hm_T Λ d fr kc ks r μ' pc' lv st μ1) : hm_T Λ d fr kc ks r μ' pc lv (.int x :: .int i :: .ref a :: st) μ := by
  rcases hm_is e with ⟨-, e⟩ | ⟨hc, e⟩
  · cases e
  · cases e; exact tr_bast hd hp ha hc K
theorem tp_sdC {a L : Nat} {i x : Int32} (hd : decode d.2.1 pc = .ok (.castore, 1)) (hp : pc + 1 = pc') (ha : hm_ar μ a 12 L) (e : hm_sd μ a L i (vp_nar .char x) = some μ1) (K : hm_T Λ d fr kc ks r μ' pc' lv st μ1) : hm_T Λ d fr kc ks r μ' pc lv (.int x :: .int i :: .ref a :: st) μ := by
  rcases hm_is e with ⟨-, e⟩ | ⟨hc, e⟩
  · cases e
  · cases e; exact tr_cast hd hp ha hc K
theorem tp_sdZ {a L : Nat} {i x : Int32} (hd : decode d.2.1 pc = .ok (.bastore, 1)) (hp : pc + 1 = pc') (ha : hm_ar μ a 15 L) (e : hm_sd μ a L i (vp_nar .boolean x) = some μ1) (K : hm_T Λ d fr kc ks r μ' pc' lv st μ1) : hm_T Λ d fr kc ks r μ' pc lv (.int x :: .int i :: .ref a :: st) μ := by
  rcases hm_is e with ⟨-, e⟩ | ⟨hc, e⟩
  · cases e
  · cases e; exact tr_zast hd hp ha hc K
theorem tp_sdJ {a L : Nat} {i : Int32} {x : Int64} (hd : decode d.2.1 pc = .ok (.lastore, 1)) (hp : pc + 1 = pc') (ha : hm_ar μ a 14 L) (e : hm_sdJ μ a L i x = some μ1) (K : hm_T Λ d fr kc ks r μ' pc' lv st μ1) : hm_T Λ d fr kc ks r μ' pc lv (.long x :: .int i :: .ref a :: st) μ := by
  rcases hm_is e with ⟨-, e⟩ | ⟨hc, e⟩
  · cases e
  · cases e; exact tr_last hd hp ha hc K
theorem tp_pI {a ix ci k : Nat} {x : Int32} (hF : hm_Fl d.1.cls ix ci k false .int false) (hd : decode d.2.1 pc = .ok (.putfield ix, 3)) (hp : pc + 3 = pc') (ha : hm_at μ a ci) (e : hm_pI μ a k x = some μ1) (K : hm_T Λ d fr kc ks r μ' pc' lv st μ1) : hm_T Λ d fr kc ks r μ' pc lv (.int x :: .ref a :: st) μ := by
  cases e; exact tr_putI hF hd hp ha rfl rfl K
theorem tp_pZ {a ix ci k : Nat} {x : Int32} (hF : hm_Fl d.1.cls ix ci k false .boolean false) (hd : decode d.2.1 pc = .ok (.putfield ix, 3)) (hp : pc + 3 = pc') (ha : hm_at μ a ci) (e : hm_pZ μ a k x = some μ1) (K : hm_T Λ d fr kc ks r μ' pc' lv st μ1) : hm_T Λ d fr kc ks r μ' pc lv (.int x :: .ref a :: st) μ := by
  rcases hm_is e with ⟨hc, e⟩ | ⟨-, e⟩
  · cases e; exact tr_putI hF hd hp ha (hm_zn hc).1 (hm_zn hc).2 K
  · cases e
theorem tp_dv {x y z : Int32} (hd : decode d.2.1 pc = .ok (.idiv, 1)) (hp : pc + 1 = pc') (e : hm_dv x y = some z) (K : hm_T Λ d fr kc ks r μ' pc' lv (.int z :: st) μ) : hm_T Λ d fr kc ks r μ' pc lv (.int y :: .int x :: st) μ := by
  rcases hm_is e with ⟨-, e⟩ | ⟨hc, e⟩
  · cases e
  · cases e; exact tr_idiv hd hp hc K
theorem tp_rm {x y z : Int32} (hd : decode d.2.1 pc = .ok (.irem, 1)) (hp : pc + 1 = pc') (e : hm_rm2 x y = some z) (K : hm_T Λ d fr kc ks r μ' pc' lv (.int z :: st) μ) : hm_T Λ d fr kc ks r μ' pc lv (.int y :: .int x :: st) μ := by
  rcases hm_is e with ⟨-, e⟩ | ⟨hc, e⟩
  · cases e
  · cases e; exact tr_irem hd hp hc K
theorem tp_dvJ {x y z : Int64} (hd : decode d.2.1 pc = .ok (.ldiv, 1)) (hp : pc + 1 = pc') (e : hm_dvJ x y = some z) (K : hm_T Λ d fr kc ks r μ' pc' lv (.long z :: st) μ) : hm_T Λ d fr kc ks r μ' pc lv (.long y :: .long x :: st) μ := by
  rcases hm_is e with ⟨-, e⟩ | ⟨hc, e⟩
  · cases e
  · cases e; exact tr_ldiv hd hp hc K
theorem tp_rmJ {x y z : Int64} (hd : decode d.2.1 pc = .ok (.lrem, 1)) (hp : pc + 1 = pc') (e : hm_rmJ x y = some z) (K : hm_T Λ d fr kc ks r μ' pc' lv (.long z :: st) μ) : hm_T Λ d fr kc ks r μ' pc lv (.long y :: .long x :: st) μ := by
  rcases hm_is e with ⟨-, e⟩ | ⟨hc, e⟩
  · cases e
  · cases e; exact tr_lrem hd hp hc K
theorem tp_zret {x z : Int32} (hr : d.2.2.2 = some .boolean) (hd : decode d.2.1 pc = .ok (.ireturn, 1)) (e : hm_rz x = some z) (hL : Λ μ) : hm_T Λ d fr kc ks (some (.int z)) μ pc lv [.int x] μ := by
  obtain ⟨rfl, hn⟩ := hm_rzs e
  exact tr_zret hr hn hd hL
theorem tp_tin {dflt lo hi off : Int} {offs : Array Int} {len tgt : Nat} {x v : Int32} (hx : x = v) (hd : decode d.2.1 pc = .ok (.tableswitch dflt lo hi offs, len)) (h1 : ¬ v.toInt < lo) (h2 : ¬ hi < v.toInt) (ho : offs[(v.toInt - lo).toNat]? = some off) (ht : (pc : Int) + off = (tgt : Int)) (k : hm_T Λ d fr kc ks r μ' tgt lv st μ) : hm_T Λ d fr kc ks r μ' pc lv (.int x :: st) μ := by
  subst hx
  exact tr_tin hd h1 h2 ho ht k
theorem tp_tout {dflt lo hi : Int} {offs : Array Int} {len tgt : Nat} {x l0 h0 : Int32} (hx : x < l0 ∨ h0 < x) (hl : l0.toInt = lo) (hh : h0.toInt = hi) (hd : decode d.2.1 pc = .ok (.tableswitch dflt lo hi offs, len)) (ht : (pc : Int) + dflt = (tgt : Int)) (k : hm_T Λ d fr kc ks r μ' tgt lv st μ) : hm_T Λ d fr kc ks r μ' pc lv (.int x :: st) μ := by
  refine tr_tout hd ?_ ht k
  rw [← hl, ← hh]
  exact hx.imp Int32.lt_iff_toInt_lt.mp Int32.lt_iff_toInt_lt.mp
theorem tp_callV {Λ1 : hm_M → Prop} {d1 : hm_D} {fr1 a ix ci n : Nat} {As st0 : List Value} {q0 : vw_C} {r1 : Option Value} {st' : List Value} (ok : hm_okV d1 n) (hlk : Cond.methodLink d.1.cls ix d1.1 ∈ hm_tb) (hd : decode d.2.1 pc = .ok (.invokevirtual ix, 3)) (hp : pc + 3 = pc') (hq0 : vwCl[ci]? = some q0) (hq1 : q0.1 = d1.1.cls) (hci : ci < 11) (ha : hm_at μ a ci) (hn : As.length = n) (hst : As.reverse ++ .ref a :: st = st0) (hcat : (st.map fun v => v.category).sum ≤ 8) (hfr : fr1 + 1 ≤ fr) (hc : hm_CC Λ1 d1 fr1 0 0 (.ref a :: As) μ r1 μ1) (hs' : r1.toList ++ st = st')
    (K : hm_T Λ d fr kc ks r μ' pc' lv st' μ1) : hm_T Λ d fr kc ks r μ' pc lv st0 μ := by
  subst hs'
  exact tr_callV ok hlk hd hp hq0 hq1 hci ha hn hst hcat hfr (Nat.zero_le _) (Nat.zero_le _) hc K
theorem tp_callS {Λ1 : hm_M → Prop} {d1 : hm_D} {fr1 ix n : Nat} {As st0 : List Value} {r1 : Option Value} {st' : List Value} (ok : hm_okS d1 n) (hlk : Cond.methodLink d.1.cls ix d1.1 ∈ hm_tb) (hd : decode d.2.1 pc = .ok (.invokestatic ix, 3)) (hp : pc + 3 = pc') (hn : As.length = n) (hst : As.reverse ++ st = st0) (hcat : (st.map fun v => v.category).sum ≤ 8) (hfr : fr1 + 1 ≤ fr) (hc : hm_CC Λ1 d1 fr1 0 0 As μ r1 μ1) (hs' : r1.toList ++ st = st')
    (K : hm_T Λ d fr kc ks r μ' pc' lv st' μ1) : hm_T Λ d fr kc ks r μ' pc lv st0 μ := by
  subst hs'
  exact tr_callS ok hlk hd hp hn hst hcat hfr (Nat.zero_le _) (Nat.zero_le _) hc K
end HMP
/-- what is held of the locals no more -/
def hm_keep : List Bool → List (Option Value) → List (Option Value)
  | b :: bs, v :: l => (if b = true then v else none) :: hm_keep bs l
  | _, _ => []
theorem hm_keep_mem : ∀ (bs : List Bool) (lv : List (Option Value)) (i : Nat) (v : Value), (hm_keep bs lv)[i]? = some (some v) → lv[i]? = some (some v)
  | [], _, _, _, h => by simp [hm_keep] at h
  | _ :: _, [], _, _, h => by simp [hm_keep] at h
  | b :: bs, w :: l, 0, v, h => by
    cases b with
    | true => exact h
    | false => cases h
  | b :: bs, w :: l, i + 1, v, h => hm_keep_mem bs l i v h
theorem hm_fgt {Λ : hm_M → Prop} {d : hm_D} {fr kc ks : Nat} {r : Option Value} {μ μ' : hm_M} {pc : Nat} {lv lv' : List (Option Value)} {st : List Value} (bs : List Bool) (hs : hm_keep bs lv = lv') (k : hm_T Λ d fr kc ks r μ' pc lv' st μ) : hm_T Λ d fr kc ks r μ' pc lv st μ := by
  subst hs
  refine ⟨k.1, fun l g p e s m args below meth c H locs cells slots mc ms ls C w S L h1 h2 => k.2 l g p e s m args below meth c H locs cells slots mc ms ls C w S ⟨L.1, L.2.1, fun q hq => ?_⟩ h1 h2⟩
  obtain ⟨v, hv, hv2⟩ := hm_lv_mem hq
  refine L.2.2 q ?_
  exact List.mem_map.mpr ⟨(q.1, v), hm_la_mem.mpr (hm_keep_mem _ _ _ _ hv), by rw [← hv2]⟩
theorem hm_wb {L : List Cond} {is : List Nat} (h : L = is.filterMap (fun i => lw_tbl[i]?)) (hg : L.all goodWord = true) {w : Cond} (j : Nat) (hj : L[j]? = some w) : w ∈ hm_tb := by
  have hm := List.mem_of_getElem? hj
  refine hm_tb_in ?_ (List.all_eq_true.mp hg w hm)
  rw [h] at hm
  obtain ⟨i, -, hi⟩ := List.mem_filterMap.mp hm
  exact List.mem_of_getElem? hi
