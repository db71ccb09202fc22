section
/-! The reference reads tokens. -/
def fx (μ m : hm_M) : Prop := m.2 = μ.2 ∧ ∀ a j, ¬ (a = 179 ∧ (j = 19 ∨ j = 20 ∨ j = 21)) → m.1 a j = μ.1 a j
theorem fx_refl (μ : hm_M) : fx μ μ := ⟨rfl, fun _ _ _ => rfl⟩
theorem fx_trans {μ m m1 : hm_M} (h : fx μ m) (g : fx m m1) : fx μ m1 := ⟨g.1.trans h.1, fun a j z => (g.2 a j z).trans (h.2 a j z)⟩
theorem fx_w {μ m : hm_M} (h : fx μ m) {j : Nat} (hj : j = 19 ∨ j = 20 ∨ j = 21) (x : Int32) : fx μ (hm_wI m 179 j x) := ⟨h.1, fun a k z => by rw [wI_ne (by omega)]; exact h.2 a k z⟩
def RB (μ : hm_M) (T : Nat → Nat) (n : Nat) (ord : Bool) : Prop := TK μ T n (tmy T n + 1) ∧ (n ≤ 400 ∧ ∀ i, i < n → T i < 256) ∧ μ.1 179 10 = zb ord ∧ μ.1 179 8 = Int32.ofNat (if ord = true then 15 else 8) ∧ μ.1 179 9 = Int32.ofNat (if ord = true then 21 else 15)
def RA (μ : hm_M) (T : Nat → Nat) (n : Nat) (ord : Bool) (i l : Nat) : Prop := RB μ T n ord ∧ (i ≤ tmy T n ∧ l ≤ 50) ∧ μ.1 179 19 = Int32.ofNat i ∧ μ.1 179 20 = Int32.ofNat l ∧ μ.1 179 21 = -1
def NF (μ : hm_M) : Prop := ∃ q, q ≤ 400 ∧ μ.1 179 21 = Int32.ofNat q
theorem RB.fx {μ m : hm_M} {T : Nat → Nat} {n : Nat} {ord : Bool} (h : RB μ T n ord) (f : fx μ m) : RB m T n ord := by
  refine ⟨fun k hk => ?_, h.2.1, ?_, ?_, ?_⟩
  · rw [f.2 _ _ (by omega), f.2 _ _ (by omega), f.2 _ _ (by omega)]
    exact h.1 k hk
  · rw [f.2 _ _ (by omega)]; exact h.2.2.1
  · rw [f.2 _ _ (by omega)]; exact h.2.2.2.1
  · rw [f.2 _ _ (by omega)]; exact h.2.2.2.2
theorem tkc_lt {T : Nat → Nat} {n : Nat} (h : ∀ i, i < n → T i < 256) (i : Nat) : tkc T n i < 400 := by
  unfold tkc
  split
  next y =>
    have h1 := h _ y
    have h2 := wdn_le T (tst T n i) (ten T n (tst T n i))
    unfold cod
    split
    · omega
    · split <;> omega
  next y => omega
theorem vlc_lt {T : Nat → Nat} {n : Nat} (i : Nat) : vlc T n i ≤ 10000009 := by
  unfold vlc
  split
  next y =>
    have hte := ten_p (T := T) y.1
    have d1 := of_decide_eq_true y.2
    have et : ten T n (tst T n i) = av dgt T n (tst T n i + 1) := by
      unfold ten
      rw [if_neg (show ¬ sml (T (tst T n i)) = true from fun z => by have := of_decide_eq_true z; omega), if_pos y.2]
    refine (vl9_v _ fun j hj => ?_).2
    by_cases w : j = 0
    · rw [w]; exact y.2
    · exact (av_in (q := dgt) (T := T) (n := n) (p := tst T n i + 1) (by omega) (by rw [← et]; omega)).2
  next y => omega
theorem tkc_0 {T : Nat → Nat} {n i : Nat} (h : tkc T n i ≠ 0) : i < tmy T n := by
  rw [tmy_lt]
  apply Decidable.byContradiction
  intro y
  exact h (if_neg y)
section
variable {μ : hm_M} {T : Nat → Nat} {n : Nat} {ord : Bool} {i l : Nat}
theorem nf_fine (h : NF μ) : f_X10_fine μ = some 0 := by
  obtain ⟨q, h1, h2⟩ := h
  unfold f_X10_fine
  rw [h2, if_neg]
  intro z
  have := n_toInt (n := q) (by omega)
  rw [z] at this
  have e : (-1 : Int32).toInt = -1 := rfl
  omega
theorem nf_takes (h : NF μ) (c : Int32) : f_X10_takes0 c μ = some (0, μ) := by
  unfold f_X10_takes0
  rw [nf_fine h, Option.bind_some, if_pos rfl]
  rfl
theorem nf_faults (h : NF μ) : f_X10_faults μ = some μ := by
  unfold f_X10_faults
  rw [nf_fine h, Option.bind_some, if_pos rfl]
theorem nf_must (h : NF μ) (c : Int32) : f_X10_must c μ = some μ := by
  unfold f_X10_must
  rw [nf_takes h, b2_some, if_pos rfl, nf_faults h, Option.bind_some]
theorem nf_num (h : NF μ) (a b : Int32) : f_X10_mustNumber a b μ = some μ := by
  unfold f_X10_mustNumber
  rw [nf_fine h, Option.bind_some, if_pos rfl]
  unfold f_X10_mustNumber_J42
  rw [nf_fine h, Option.bind_some, if_pos rfl]
theorem nf_part (h : NF μ) (k1 k2 k3 : Int32 → hm_M → Option hm_M) (v : Int32) : f_X10_readPart k1 k2 k3 v μ = some μ := by
  unfold f_X10_readPart
  rw [nf_fine h, Option.bind_some, if_pos rfl]
theorem nf_tl (h : NF μ) (k1 k2 k3 : Int32 → hm_M → Option hm_M) (v : Int32) (e : hm_M → Option hm_M) (F : Nat) : f_X10_readTerm_L5 k1 k2 k3 v e (F + 1) μ = e μ := by
  rw [f_X10_readTerm_L5]
  unfold f_X10_sign
  rw [Option.bind_some, nf_takes h, b2_some, if_pos rfl, Option.bind_some, nf_takes h, b2_some, if_pos rfl, Option.bind_some, nf_takes h, b2_some, if_pos rfl]
theorem nf_sl (h : NF μ) (k1 k2 k3 : Int32 → hm_M → Option hm_M) (v : Int32) (e : hm_M → Option hm_M) (F : Nat) : f_X10_readSum_L5 k1 k2 k3 v e (F + 1) μ = e μ := by
  rw [f_X10_readSum_L5]
  unfold f_X10_sign
  rw [Option.bind_some, nf_takes h, b2_some, if_pos rfl, Option.bind_some, nf_takes h, b2_some, if_pos rfl]
theorem nf_term (h : NF μ) (M : Nat) (v : Int32) : (K_X10_readPart (M + 2)).2.2 v μ = some μ := by
  show f_X10_readTerm (K_X10_readPart (M + 1)).1 (K_X10_readPart (M + 1)).2.1 (K_X10_readPart (M + 1)).2.2 v μ = some μ
  unfold f_X10_readTerm
  rw [show (K_X10_readPart (M + 1)).1 v μ = some μ from nf_part h _ _ _ v, Option.bind_some]
  exact nf_tl h _ _ _ v _ 999999
theorem nf_sum (h : NF μ) (M : Nat) (v : Int32) : (K_X10_readPart (M + 3)).2.1 v μ = some μ := by
  show f_X10_readSum (K_X10_readPart (M + 2)).1 (K_X10_readPart (M + 2)).2.1 (K_X10_readPart (M + 2)).2.2 v μ = some μ
  unfold f_X10_readSum
  rw [nf_term h M v, Option.bind_some]
  exact nf_sl h _ _ _ v _ 999999
theorem RA.fine (h : RA μ T n ord i l) : f_X10_fine μ = some 1 := by
  unfold f_X10_fine
  rw [h.2.2.2.2, if_pos rfl]
theorem RA.tk (h : RA μ T n ord i l) : hm_ld μ 188 401 (μ.1 179 19) = some (Int32.ofNat (tkc T n i)) := by
  have h1 := (tmy_p T n).2.2
  have h2 := h.1.2.1.1
  have h3 := h.2.1.1
  rw [h.2.2.1, ld_n (by omega) (by decide)]
  exact congrArg some (h.1.1 i (by omega)).2.1
theorem RA.vl (h : RA μ T n ord i l) : hm_ld μ 189 401 (μ.1 179 19) = some (Int32.ofNat (vlc T n i)) := by
  have h1 := (tmy_p T n).2.2
  have h2 := h.1.2.1.1
  have h3 := h.2.1.1
  rw [h.2.2.1, ld_n (by omega) (by decide)]
  exact congrArg some (h.1.1 i (by omega)).2.2
theorem RA.up (h : RA μ T n ord i l) (hi : i < tmy T n) : RA (hm_wI μ 179 19 (Int32.ofNat (i + 1))) T n ord (i + 1) l :=
  ⟨h.1.fx (fx_w (fx_refl μ) (by omega) _), ⟨by omega, h.2.1.2⟩, wI_at _ _ _ _, by rw [wI_ne (by omega)]; exact h.2.2.2.1, by rw [wI_ne (by omega)]; exact h.2.2.2.2⟩
theorem RA.leaf (h : RA μ T n ord i l) (hi : i < tmy T n) (hl : l < 50) : RA (hm_wI (hm_wI μ 179 20 (Int32.ofNat (l + 1))) 179 19 (Int32.ofNat (i + 1))) T n ord (i + 1) (l + 1) :=
  ⟨h.1.fx (fx_w (fx_w (fx_refl μ) (by omega) _) (by omega) _), ⟨by omega, by omega⟩, wI_at _ _ _ _, by rw [wI_ne (by omega), wI_at], by rw [wI_ne (by omega), wI_ne (by omega)]; exact h.2.2.2.2⟩
theorem RA.faults (h : RA μ T n ord i l) : f_X10_faults μ = some (hm_wI μ 179 21 (Int32.ofNat (tst T n i))) := by
  have h1 := (tmy_p T n).2.2
  have h2 := h.1.2.1.1
  have h3 := h.2.1.1
  unfold f_X10_faults
  rw [h.fine, Option.bind_some, if_neg (by decide), h.2.2.1, ld_n (by omega) (by decide), Option.bind_some, (h.1.1 i (by omega)).1, pI_some]
  rfl
theorem RA.nf (h : RA μ T n ord i l) : NF (hm_wI μ 179 21 (Int32.ofNat (tst T n i))) := by
  have h1 := tst_le T n i
  have h2 := h.1.2.1.1
  exact ⟨tst T n i, by omega, wI_at _ _ _ _⟩
theorem RA.takes (h : RA μ T n ord i l) {c : Nat} (hc : c < 1000) : f_X10_takes0 (Int32.ofNat c) μ = if tkc T n i = c then some (1, hm_wI μ 179 19 (Int32.ofNat (i + 1))) else some (0, μ) := by
  have h1 := tkc_lt h.1.2.1.2 i
  unfold f_X10_takes0
  rw [h.fine, Option.bind_some, if_neg (by decide), h.tk, Option.bind_some]
  by_cases y : tkc T n i = c
  · rw [if_pos y, if_pos (by rw [y])]
    unfold f_X10_takes0_J25
    rw [if_neg (by decide), h.2.2.1, show Int32.ofNat i + 1 = Int32.ofNat (i + 1) from n_add i 1, pI_some]
    rfl
  · rw [if_neg y, if_neg (by rw [n_eq (by omega) (by omega)]; exact y)]
    rfl
/-- what reading comes to -/
def RE {α : Type} (T : Nat → Nat) (n : Nat) (ord : Bool) (i : Nat) (μ : hm_M) (r : pc_R α) (o : Option hm_M) : Prop := ∃ m, o = some m ∧ fx μ m ∧ match r with
  | .error e => e ≤ tmy T n ∧ m.1 179 21 = Int32.ofNat (tst T n e)
  | .ok (j, l1, _, _) => i ≤ j ∧ RA m T n ord j l1
theorem RE_err {α : Type} {m : hm_M} (h : RA m T n ord i l) (f : fx μ m) {k : Nat} : RE (α := α) T n ord k μ (.error i) (some (hm_wI m 179 21 (Int32.ofNat (tst T n i)))) := ⟨_, rfl, fx_w f (by omega) _, h.2.1.1, wI_at _ _ _ _⟩
theorem nf_of {m : hm_M} {e : Nat} (hn : n ≤ 400) (h : m.1 179 21 = Int32.ofNat (tst T n e)) : NF m := by
  have h1 := tst_le T n e
  exact ⟨tst T n e, by omega, h⟩
theorem RA.must (h : RA μ T n ord i l) {c : Nat} (hc : c < 1000) (h0 : c ≠ 0) {C : pc_C} {s : pc_S} {m0 : hm_M} (f : fx m0 μ) : RE T n ord (i + 1) m0 (if tkc T n i = c then .ok (i + 1, l, C, s) else .error i) (f_X10_must (Int32.ofNat c) μ) := by
  unfold f_X10_must
  rw [h.takes hc]
  by_cases y : tkc T n i = c
  · rw [if_pos y, if_pos y, b2_some, if_neg (by decide)]
    exact ⟨_, rfl, fx_w f (by omega) _, Nat.le_refl _, h.up (tkc_0 (by omega))⟩
  · rw [if_neg y, if_neg y, b2_some, if_pos rfl, h.faults, Option.bind_some]
    exact RE_err h f
theorem rd_leaf (h : RA μ T n ord i l) : f_X10_leaf μ = if l < 50 then some (hm_wI (hm_wI μ 179 20 (Int32.ofNat (l + 1))) 179 19 (Int32.ofNat (i + 1))) else some (hm_wI (hm_wI μ 179 21 (Int32.ofNat (tst T n i))) 179 20 (Int32.ofNat (l + 1))) := by
  have hl := h.2.1.2
  unfold f_X10_leaf
  by_cases y : l < 50
  · rw [if_pos y, h.2.2.2.1, if_neg (by rw [show (50 : Int32) = Int32.ofNat 50 from rfl, n_eq (by omega) (by omega)]; omega)]
    unfold f_X10_leaf_J13
    rw [h.2.2.2.1, show Int32.ofNat l + 1 = Int32.ofNat (l + 1) from n_add l 1, pI_some, Option.bind_some]
    have fi : f_X10_fine (hm_wI μ 179 20 (Int32.ofNat (l + 1))) = some 1 := by
      unfold f_X10_fine
      rw [wI_ne (by omega), h.2.2.2.2, if_pos rfl]
    rw [fi, Option.bind_some, if_neg (by decide), wI_ne (by omega), h.2.2.1, show Int32.ofNat i + 1 = Int32.ofNat (i + 1) from n_add i 1, pI_some]
    rfl
  · rw [if_neg y, h.2.2.2.1, if_pos (by rw [show (50 : Int32) = Int32.ofNat 50 from rfl, n_eq (by omega) (by omega)]; omega), h.faults, Option.bind_some]
    unfold f_X10_leaf_J13
    rw [wI_ne (by omega), h.2.2.2.1, show Int32.ofNat l + 1 = Int32.ofNat (l + 1) from n_add l 1, pI_some, Option.bind_some]
    have nf : NF (hm_wI (hm_wI μ 179 21 (Int32.ofNat (tst T n i))) 179 20 (Int32.ofNat (l + 1))) := by
      obtain ⟨q, q1, q2⟩ := h.nf
      exact ⟨q, q1, by rw [wI_ne (by omega)]; exact q2⟩
    rw [nf_fine nf, Option.bind_some, if_pos rfl]
theorem rd_num (h : RA μ T n ord i l) {a b : Nat} (ha : a < 100) (hb : b < 100) : f_X10_mustNumber (Int32.ofNat a) (Int32.ofNat b) μ = if tkc T n i = 50 ∧ a ≤ vlc T n i ∧ vlc T n i ≤ b then some (hm_wI μ 179 19 (Int32.ofNat (i + 1))) else some (hm_wI μ 179 21 (Int32.ofNat (tst T n i))) := by
  have h1 := tkc_lt h.1.2.1.2 i
  have h2 := vlc_lt (T := T) (n := n) i
  have bad : f_X10_mustNumber_J38 (Int32.ofNat a) (Int32.ofNat b) μ = some (hm_wI μ 179 21 (Int32.ofNat (tst T n i))) := by
    unfold f_X10_mustNumber_J38 f_X10_mustNumber_J42
    rw [h.faults, Option.bind_some, nf_fine h.nf, Option.bind_some, if_pos rfl]
  unfold f_X10_mustNumber
  rw [h.fine, Option.bind_some, if_neg (by decide), h.tk, Option.bind_some]
  by_cases y : tkc T n i = 50
  · rw [if_pos (by rw [y]; rfl), h.vl, Option.bind_some, v_lies, Option.bind_some, n_toInt (by omega), n_toInt (by omega), n_toInt (by omega)]
    by_cases z : a ≤ vlc T n i ∧ vlc T n i ≤ b
    · rw [if_pos (show (a : Int) ≤ vlc T n i ∧ (vlc T n i : Int) ≤ b by omega), if_neg (by decide), if_pos ⟨y, z⟩]
      unfold f_X10_mustNumber_J42
      rw [h.fine, Option.bind_some, if_neg (by decide), h.2.2.1, show Int32.ofNat i + 1 = Int32.ofNat (i + 1) from n_add i 1, pI_some]
      rfl
    · rw [if_neg (show ¬ ((a : Int) ≤ vlc T n i ∧ (vlc T n i : Int) ≤ b) by omega), if_pos rfl, if_neg (fun q => z q.2)]
      exact bad
  · rw [if_neg (by rw [show (50 : Int32) = Int32.ofNat 50 from rfl, n_eq (by omega) (by omega)]; exact y), if_neg (fun q => y q.1)]
    exact bad
end
end
