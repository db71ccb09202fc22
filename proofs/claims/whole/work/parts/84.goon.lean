section
/-! The component's reader goes from token to token. -/
def GT (μ : hm_M) (T : Nat → Nat) (n : Nat) : Prop := n ≤ 400 ∧ (∀ i, i < n → T i < 256 ∧ μ.1 156 i = Int32.ofNat (T i)) ∧ μ.1 150 2 = Int32.ofNat n
def fg (μ m : hm_M) : Prop := m.2 = μ.2 ∧ ∀ a j, ¬ (a = 150 ∧ 4 ≤ j ∧ j ≤ 7) → m.1 a j = μ.1 a j
theorem fg_refl (μ : hm_M) : fg μ μ := ⟨rfl, fun _ _ _ => rfl⟩
theorem fg_trans {μ m m1 : hm_M} (h : fg μ m) (g : fg m m1) : fg μ m1 := ⟨g.1.trans h.1, fun a j z => (g.2 a j z).trans (h.2 a j z)⟩
theorem fg_w {μ m : hm_M} (h : fg μ m) {j : Nat} (hj : 4 ≤ j ∧ j ≤ 7) (x : Int32) : fg μ (hm_wI m 150 j x) := ⟨h.1, fun a k z => by rw [wI_ne (by omega)]; exact h.2 a k z⟩
theorem GT.fg {μ m : hm_M} {T : Nat → Nat} {n : Nat} (h : GT μ T n) (f : fg μ m) : GT m T n := ⟨h.1, fun i hi => ⟨(h.2.1 i hi).1, by rw [f.2 _ _ (by omega)]; exact (h.2.1 i hi).2⟩, by rw [f.2 _ _ (by omega)]; exact h.2.2⟩
theorem let_n : ∀ b, b < 256 → f_X6_isLetter (Int32.ofNat b) = some (zb (sml b)) := by decide +kernel
theorem dig_n : ∀ b, b < 256 → f_X6_isDigit (Int32.ofNat b) = some (zb (dgt b)) := by decide +kernel
def kv (T : Nat → Nat) (n s : Nat) (m : hm_M) : Prop := if s < n then m.1 150 6 = Int32.ofNat (ten T n s) ∧ (if sml (T s) = true then m.1 150 4 = 0 else if dgt (T s) = true then m.1 150 4 = 1 ∧ m.1 150 7 = Int32.ofNat (min (vlu T s (ten T n s - s)) 1001) else m.1 150 4 = 2 ∧ m.1 150 7 = Int32.ofNat (T s)) else m.1 150 6 = Int32.ofNat n ∧ m.1 150 4 = 3
def AT (m : hm_M) (T : Nat → Nat) (n i : Nat) : Prop := GT m T n ∧ m.1 150 5 = Int32.ofNat (tst T n i) ∧ kv T n (tst T n i) m
section
variable {μ : hm_M} {T : Nat → Nat} {n : Nat}
theorem go_8 (hT : GT μ T n) {p : Nat} (hp : p ≤ n) (h5 : μ.1 150 5 = Int32.ofNat p) (e : hm_M → Option hm_M) : ∃ m, fg μ m ∧ m.1 150 5 = Int32.ofNat (av spc T n p) ∧ f_X6_goOn_L8 e hm_fu μ = e m := by
  have h1 := av_ge spc T n p
  have h2 := av_le (q := spc) (T := T) hp
  have hn := hT.1
  refine lo1 (L := f_X6_goOn_L8 e) (fun k m => fg μ m ∧ m.1 150 5 = Int32.ofNat (p + k)) (fun o => ∃ m, fg μ m ∧ m.1 150 5 = Int32.ofNat (av spc T n p) ∧ o = e m) (av spc T n p - p) (fun k m hk hI => Or.inl ?_) (fun m hI F => ?_) (fu_lt (by omega)) ⟨fg_refl μ, h5⟩
  · obtain ⟨f1, f2⟩ := hI
    obtain ⟨i1, i2⟩ := av_in (q := spc) (T := T) (n := n) (p := p) (k := p + k) (by omega) (by omega)
    obtain ⟨b1, b2⟩ := (hT.fg f1).2.1 (p + k) i1
    have i3 : T (p + k) = 32 := of_decide_eq_true i2
    refine ⟨hm_wI m 150 5 (Int32.ofNat (p + (k + 1))), ⟨fg_w f1 (by omega) _, wI_at _ _ _ _⟩, fun F => ?_⟩
    rw [f_X6_goOn_L8, (hT.fg f1).2.2, f2, if_neg (by rw [n_le (by omega) (by omega)]; omega), ld_n (by omega) (by decide), Option.bind_some, b2, i3, if_pos (show Int32.ofNat 32 = 32 from rfl), show Int32.ofNat (p + k) + 1 = Int32.ofNat (p + (k + 1)) from n_add (p + k) 1, pI_some, Option.bind_some]
  · obtain ⟨f1, f2⟩ := hI
    rw [show p + (av spc T n p - p) = av spc T n p by omega] at f2
    refine ⟨m, f1, f2, ?_⟩
    by_cases y : av spc T n p < n
    · obtain ⟨b1, b2⟩ := (hT.fg f1).2.1 _ y
      have i3 : ¬ T (av spc T n p) = 32 := of_decide_eq_false (av_no y)
      rw [f_X6_goOn_L8, (hT.fg f1).2.2, f2, if_neg (by rw [n_le (by omega) (by omega)]; omega), ld_n (by omega) (by decide), Option.bind_some, b2, if_neg (by rw [show (32 : Int32) = Int32.ofNat 32 from rfl, n_eq (by omega) (by omega)]; exact i3)]
    · rw [f_X6_goOn_L8, (hT.fg f1).2.2, f2, if_pos (by rw [n_le (by omega) (by omega)]; omega)]
theorem go_98 (hT : GT μ T n) {p : Nat} (hp : p ≤ n) (h6 : μ.1 150 6 = Int32.ofNat p) (e : hm_M → Option hm_M) : ∃ m, fg μ m ∧ m.1 150 4 = μ.1 150 4 ∧ m.1 150 5 = μ.1 150 5 ∧ m.1 150 6 = Int32.ofNat (av sml T n p) ∧ f_X6_goOn_L98 e hm_fu μ = e m := by
  have h1 := av_ge sml T n p
  have h2 := av_le (q := sml) (T := T) hp
  have hn := hT.1
  refine lo1 (L := f_X6_goOn_L98 e) (fun k m => fg μ m ∧ m.1 150 4 = μ.1 150 4 ∧ m.1 150 5 = μ.1 150 5 ∧ m.1 150 6 = Int32.ofNat (p + k)) (fun o => ∃ m, fg μ m ∧ m.1 150 4 = μ.1 150 4 ∧ m.1 150 5 = μ.1 150 5 ∧ m.1 150 6 = Int32.ofNat (av sml T n p) ∧ o = e m) (av sml T n p - p) (fun k m hk hI => Or.inl ?_) (fun m hI F => ?_) (fu_lt (by omega)) ⟨fg_refl μ, rfl, rfl, h6⟩
  · obtain ⟨f1, f4, f5, f2⟩ := hI
    obtain ⟨i1, i2⟩ := av_in (q := sml) (T := T) (n := n) (p := p) (k := p + k) (by omega) (by omega)
    obtain ⟨b1, b2⟩ := (hT.fg f1).2.1 (p + k) i1
    refine ⟨hm_wI m 150 6 (Int32.ofNat (p + (k + 1))), ⟨fg_w f1 (by omega) _, by rw [wI_ne (by omega)]; exact f4, by rw [wI_ne (by omega)]; exact f5, wI_at _ _ _ _⟩, fun F => ?_⟩
    rw [f_X6_goOn_L98, (hT.fg f1).2.2, f2, if_neg (by rw [n_le (by omega) (by omega)]; omega), ld_n (by omega) (by decide), Option.bind_some, b2, let_n _ b1, Option.bind_some, i2, if_neg (show ¬ zb true = 0 by decide), show Int32.ofNat (p + k) + 1 = Int32.ofNat (p + (k + 1)) from n_add (p + k) 1, pI_some, Option.bind_some]
  · obtain ⟨f1, f4, f5, f2⟩ := hI
    rw [show p + (av sml T n p - p) = av sml T n p by omega] at f2
    refine ⟨m, f1, f4, f5, f2, ?_⟩
    by_cases y : av sml T n p < n
    · obtain ⟨b1, b2⟩ := (hT.fg f1).2.1 _ y
      rw [f_X6_goOn_L98, (hT.fg f1).2.2, f2, if_neg (by rw [n_le (by omega) (by omega)]; omega), ld_n (by omega) (by decide), Option.bind_some, b2, let_n _ b1, Option.bind_some, av_no y, if_pos (show zb false = 0 from rfl)]
    · rw [f_X6_goOn_L98, (hT.fg f1).2.2, f2, if_pos (by rw [n_le (by omega) (by omega)]; omega)]
theorem go_157 (hT : GT μ T n) {s : Nat} (hs : s ≤ n) (h6 : μ.1 150 6 = Int32.ofNat s) (h7 : μ.1 150 7 = 0) (e : hm_M → Option hm_M) : ∃ m, fg μ m ∧ m.1 150 4 = μ.1 150 4 ∧ m.1 150 5 = μ.1 150 5 ∧ m.1 150 6 = Int32.ofNat (av dgt T n s) ∧ m.1 150 7 = Int32.ofNat (vl9 T s (av dgt T n s - s)) ∧ f_X6_goOn_L157 e hm_fu μ = e m := by
  have h1 := av_ge dgt T n s
  have h2 := av_le (q := dgt) (T := T) hs
  have hn := hT.1
  refine lo1 (L := f_X6_goOn_L157 e) (fun k m => fg μ m ∧ m.1 150 4 = μ.1 150 4 ∧ m.1 150 5 = μ.1 150 5 ∧ m.1 150 6 = Int32.ofNat (s + k) ∧ m.1 150 7 = Int32.ofNat (vl9 T s k)) (fun o => ∃ m, fg μ m ∧ m.1 150 4 = μ.1 150 4 ∧ m.1 150 5 = μ.1 150 5 ∧ m.1 150 6 = Int32.ofNat (av dgt T n s) ∧ m.1 150 7 = Int32.ofNat (vl9 T s (av dgt T n s - s)) ∧ o = e m) (av dgt T n s - s) (fun k m hk hI => Or.inl ?_) (fun m hI F => ?_) (fu_lt (by omega)) ⟨fg_refl μ, rfl, rfl, h6, h7⟩
  · obtain ⟨f1, f4, f5, f2, f3⟩ := hI
    obtain ⟨i1, i2⟩ := av_in (q := dgt) (T := T) (n := n) (p := s) (k := s + k) (by omega) (by omega)
    obtain ⟨b1, b2⟩ := (hT.fg f1).2.1 (s + k) i1
    have i3 := of_decide_eq_true i2
    have v1 : vl9 T s k ≤ 1001 := by
      cases k with
      | zero => exact Nat.zero_le _
      | succ k => exact Nat.min_le_right _ _
    have e1 : vl9 T s (k + 1) = min (vl9 T s k * 10 + T (s + k) - 48) 1001 := rfl
    have e2 : (if (1001 : Int32) < Int32.ofNat (vl9 T s k * 10 + T (s + k) - 48) then (1001 : Int32) else Int32.ofNat (vl9 T s k * 10 + T (s + k) - 48)) = Int32.ofNat (vl9 T s (k + 1)) := by
      rw [e1]
      by_cases y : 1001 < vl9 T s k * 10 + T (s + k) - 48
      · rw [if_pos (by rw [show (1001 : Int32) = Int32.ofNat 1001 from rfl, n_lt (by omega) (by omega)]; exact y), Nat.min_eq_right (by omega)]
        rfl
      · rw [if_neg (by rw [show (1001 : Int32) = Int32.ofNat 1001 from rfl, n_lt (by omega) (by omega)]; exact y), Nat.min_eq_left (by omega)]
    refine ⟨hm_wI (hm_wI m 150 7 (Int32.ofNat (vl9 T s (k + 1)))) 150 6 (Int32.ofNat (s + (k + 1))), ⟨fg_w (fg_w f1 (by omega) _) (by omega) _, by rw [wI_ne (by omega), wI_ne (by omega)]; exact f4, by rw [wI_ne (by omega), wI_ne (by omega)]; exact f5, wI_at _ _ _ _, by rw [wI_ne (by omega), wI_at]⟩, fun F => ?_⟩
    rw [f_X6_goOn_L157, (hT.fg f1).2.2, f2, if_neg (by rw [n_le (by omega) (by omega)]; omega), ld_n (by omega) (by decide), Option.bind_some, b2, dig_n _ b1, Option.bind_some, i2, if_neg (show ¬ zb true = 0 by decide), Option.bind_some, f3, show (10 : Int32) = Int32.ofNat 10 from rfl, n_mul, n_add, show (48 : Int32) = Int32.ofNat 48 from rfl, n_sub (by omega), e2, pI_some, Option.bind_some, wI_ne (by omega), f2, show Int32.ofNat (s + k) + 1 = Int32.ofNat (s + (k + 1)) from n_add (s + k) 1, pI_some, Option.bind_some]
  · obtain ⟨f1, f4, f5, f2, f3⟩ := hI
    rw [show s + (av dgt T n s - s) = av dgt T n s by omega] at f2
    refine ⟨m, f1, f4, f5, f2, f3, ?_⟩
    by_cases y : av dgt T n s < n
    · obtain ⟨b1, b2⟩ := (hT.fg f1).2.1 _ y
      rw [f_X6_goOn_L157, (hT.fg f1).2.2, f2, if_neg (by rw [n_le (by omega) (by omega)]; omega), ld_n (by omega) (by decide), Option.bind_some, b2, dig_n _ b1, Option.bind_some, av_no y, if_pos (show zb false = 0 from rfl)]
    · rw [f_X6_goOn_L157, (hT.fg f1).2.2, f2, if_pos (by rw [n_le (by omega) (by omega)]; omega)]
theorem go_on (hT : GT μ T n) {p i : Nat} (hp : p ≤ n) (h6 : μ.1 150 6 = Int32.ofNat p) (ha : av spc T n p = tst T n i) : ∃ m, f_X6_goOn μ = some m ∧ fg μ m ∧ AT m T n i := by
  have hn := hT.1
  have hle := tst_le T n i
  unfold f_X6_goOn
  rw [h6, pI_some, Option.bind_some]
  obtain ⟨m1, f1, f2, f3⟩ := go_8 (hT.fg (fg_w (fg_refl μ) (by omega) _)) hp (wI_at μ 150 5 (Int32.ofNat p)) (fun μz5 => f_X6_goOn_J46 μz5)
  rw [f3]
  have F1 : fg μ m1 := fg_trans (fg_w (fg_refl μ) (by omega) _) f1
  rw [ha] at f2
  unfold AT
  generalize hs : tst T n i = s at f2 hle ⊢
  unfold f_X6_goOn_J46
  rw [f2, pI_some, Option.bind_some, pI_some, Option.bind_some, wI_ne (by omega), wI_ne (by omega), f2]
  generalize hm2 : hm_wI (hm_wI m1 150 6 (Int32.ofNat s)) 150 7 0 = m2
  have F2 : fg μ m2 := by rw [← hm2]; exact fg_w (fg_w F1 (by omega) _) (by omega) _
  have T2 := hT.fg F2
  have k5 : m2.1 150 5 = Int32.ofNat s := by rw [← hm2, wI_ne (by omega), wI_ne (by omega)]; exact f2
  have k6 : m2.1 150 6 = Int32.ofNat s := by rw [← hm2, wI_ne (by omega), wI_at]
  have k7 : m2.1 150 7 = 0 := by rw [← hm2, wI_at]
  rw [T2.2.2]
  by_cases y : s < n
  · obtain ⟨b1, b2⟩ := T2.2.1 s y
    rw [if_pos (by rw [n_lt (by omega) (by omega)]; exact y), ld_n (by omega) (by decide), Option.bind_some, b2, let_n _ b1, Option.bind_some]
    cases c1 : sml (T s) with
    | true =>
      rw [if_neg (show ¬ zb true = 0 by decide), pI_some, Option.bind_some]
      obtain ⟨m3, g1, g4, g5, g6, g7⟩ := go_98 (μ := hm_wI m2 150 4 0) (T2.fg (fg_w (fg_refl m2) (by omega) _)) (p := s) (by omega) (by rw [wI_ne (by omega)]; exact k6) (fun μz27 => some μz27)
      have F3 : fg μ m3 := fg_trans F2 (fg_trans (fg_w (fg_refl m2) (by omega) _) g1)
      refine ⟨m3, g7, F3, hT.fg F3, by rw [g5, wI_ne (by omega)]; exact k5, ?_⟩
      unfold kv ten
      rw [if_pos y, c1, if_pos rfl, if_pos rfl, g6, g4, wI_at, av_go y c1]
      exact ⟨rfl, rfl⟩
    | false =>
      rw [if_pos (show zb false = 0 from rfl), Option.bind_some, dig_n _ b1, Option.bind_some]
      cases c2 : dgt (T s) with
      | true =>
        rw [if_neg (show ¬ zb true = 0 by decide), pI_some, Option.bind_some]
        obtain ⟨m3, g1, g4, g5, g6, g8, g7⟩ := go_157 (μ := hm_wI m2 150 4 1) (T2.fg (fg_w (fg_refl m2) (by omega) _)) (s := s) (by omega) (by rw [wI_ne (by omega)]; exact k6) (by rw [wI_ne (by omega)]; exact k7) (fun μz22 => some μz22)
        have F3 : fg μ m3 := fg_trans F2 (fg_trans (fg_w (fg_refl m2) (by omega) _) g1)
        refine ⟨m3, g7, F3, hT.fg F3, by rw [g5, wI_ne (by omega)]; exact k5, ?_⟩
        unfold kv ten
        rw [if_pos y, c1, c2, if_neg (by decide), if_pos rfl, if_neg (by decide), if_pos rfl, g6, g4, wI_at, ← av_go y c2, g8, (vl9_v (T := T) (s := s) (av dgt T n s - s) fun j hj => (av_in (q := dgt) (T := T) (n := n) (p := s) (by omega) (by omega)).2).1]
        exact ⟨rfl, rfl, rfl⟩
      | false =>
        rw [if_pos (show zb false = 0 from rfl), pI_some, Option.bind_some, wI_ne (by omega), k5, ld_n (by omega) (by decide), Option.bind_some, wI_ne (by omega), b2, pI_some, Option.bind_some, wI_ne (by omega), wI_ne (by omega), k6, pI_some, Option.bind_some, show Int32.ofNat s + 1 = Int32.ofNat (s + 1) from n_add s 1]
        have F3 : fg μ (hm_wI (hm_wI (hm_wI m2 150 4 2) 150 7 (Int32.ofNat (T s))) 150 6 (Int32.ofNat (s + 1))) := fg_w (fg_w (fg_w F2 (by omega) _) (by omega) _) (by omega) _
        refine ⟨_, rfl, F3, hT.fg F3, by rw [wI_ne (by omega), wI_ne (by omega), wI_ne (by omega)]; exact k5, ?_⟩
        unfold kv ten
        rw [if_pos y, c1, c2, if_neg (by decide), if_neg (by decide), if_neg (by decide), if_neg (by decide), wI_at, wI_ne (by omega), wI_ne (by omega), wI_at, wI_ne (by omega), wI_at]
        exact ⟨rfl, rfl, rfl⟩
  · rw [if_neg (by rw [n_lt (by omega) (by omega)]; exact y), pI_some, Option.bind_some]
    have F3 : fg μ (hm_wI m2 150 4 3) := fg_w F2 (by omega) _
    refine ⟨_, rfl, F3, hT.fg F3, by rw [wI_ne (by omega)]; exact k5, ?_⟩
    unfold kv
    rw [if_neg y, wI_ne (by omega), wI_at, k6, show s = n by omega]
    exact ⟨rfl, rfl⟩
theorem AT.go {i : Nat} (h : AT μ T n i) : ∃ m, f_X6_goOn μ = some m ∧ fg μ m ∧ AT m T n (i + 1) := by
  obtain ⟨h1, h2, h3⟩ := h
  have hle := tst_le T n i
  have e1 : tst T n (i + 1) = if tst T n i < n then av spc T n (ten T n (tst T n i)) else n := rfl
  unfold kv at h3
  by_cases y : tst T n i < n
  · rw [if_pos y] at h3 e1
    exact go_on h1 (ten_p y).2 h3.1 e1.symm
  · rw [if_neg y] at h3 e1
    exact go_on h1 (Nat.le_refl n) h3.1 (by rw [e1, av_st (by omega)])
end
end
