section
/-! The reference splits a text. -/
section
variable {μ : hm_M} {T : Nat → Nat} {n : Nat}
theorem sp_L43 (hT : TX μ T n) {p : Nat} (hp : p ≤ n) (w2 w3 : Int32) (c7 : Int32 → hm_M → Option hm_M) (e263 : hm_M → Option hm_M) (e68 : Int32 → hm_M → Option hm_M) : f_X10_splits_L43 (Int32.ofNat n) w2 w3 c7 e263 e68 hm_fu (Int32.ofNat p) μ = e68 (Int32.ofNat (av sml T n p)) μ := by
  have h1 := av_ge sml T n p
  have h2 := av_le (q := sml) (T := T) hp
  have hn := hT.1
  refine lo2 (L := f_X10_splits_L43 (Int32.ofNat n) w2 w3 c7 e263 e68) (fun k y m => y = Int32.ofNat (p + k) ∧ m = μ) (fun o => o = e68 (Int32.ofNat (av sml T n p)) μ) (av sml T n p - p) (fun k y m hk hI => Or.inl ?_) (fun y m hI F => ?_) (fu_lt (by omega)) ⟨rfl, rfl⟩
  · obtain ⟨rfl, rfl⟩ := hI
    obtain ⟨i1, i2⟩ := av_in (q := sml) (T := T) (n := n) (p := p) (k := p + k) (by omega) (by omega)
    obtain ⟨b1, b2⟩ := hT.2 (p + k) i1
    refine ⟨_, _, ⟨rfl, rfl⟩, fun F => ?_⟩
    rw [f_X10_splits_L43, if_neg (by rw [n_le (by omega) (by omega)]; omega), ld_n (by omega) (by decide), Option.bind_some, b2, byt_sml _ b1, Option.bind_some, i2, if_neg (show ¬ zb true = 0 by decide), show Int32.ofNat (p + k) + 1 = Int32.ofNat (p + (k + 1)) from n_add (p + k) 1]
  · obtain ⟨rfl, rfl⟩ := hI
    rw [show p + (av sml T n p - p) = av sml T n p by omega]
    by_cases y : av sml T n p < n
    · obtain ⟨b1, b2⟩ := hT.2 _ y
      rw [f_X10_splits_L43, if_neg (by rw [n_le (by omega) (by omega)]; omega), ld_n (by omega) (by decide), Option.bind_some, b2, byt_sml _ b1, Option.bind_some, av_no y, if_pos (show zb false = 0 from rfl)]
    · rw [f_X10_splits_L43, if_pos (by rw [n_le (by omega) (by omega)]; omega)]
theorem sp_L75 (hT : TX μ T n) {p : Nat} (hp : p ≤ n) (w2 w3 : Int32) (c7 : Int32 → hm_M → Option hm_M) (e263 : hm_M → Option hm_M) (e68 : Int32 → hm_M → Option hm_M) : f_X10_splits_L75 (Int32.ofNat n) w2 w3 c7 e263 e68 hm_fu (Int32.ofNat p) μ = e68 (Int32.ofNat (av dgt T n p)) μ := by
  have h1 := av_ge dgt T n p
  have h2 := av_le (q := dgt) (T := T) hp
  have hn := hT.1
  refine lo2 (L := f_X10_splits_L75 (Int32.ofNat n) w2 w3 c7 e263 e68) (fun k y m => y = Int32.ofNat (p + k) ∧ m = μ) (fun o => o = e68 (Int32.ofNat (av dgt T n p)) μ) (av dgt T n p - p) (fun k y m hk hI => Or.inl ?_) (fun y m hI F => ?_) (fu_lt (by omega)) ⟨rfl, rfl⟩
  · obtain ⟨rfl, rfl⟩ := hI
    obtain ⟨i1, i2⟩ := av_in (q := dgt) (T := T) (n := n) (p := p) (k := p + k) (by omega) (by omega)
    obtain ⟨b1, b2⟩ := hT.2 (p + k) i1
    refine ⟨_, _, ⟨rfl, rfl⟩, fun F => ?_⟩
    rw [f_X10_splits_L75, if_neg (by rw [n_le (by omega) (by omega)]; omega), ld_n (by omega) (by decide), Option.bind_some, b2, byt_dgt _ b1, Option.bind_some, i2, if_neg (show ¬ zb true = 0 by decide), show Int32.ofNat (p + k) + 1 = Int32.ofNat (p + (k + 1)) from n_add (p + k) 1]
  · obtain ⟨rfl, rfl⟩ := hI
    rw [show p + (av dgt T n p - p) = av dgt T n p by omega]
    by_cases y : av dgt T n p < n
    · obtain ⟨b1, b2⟩ := hT.2 _ y
      rw [f_X10_splits_L75, if_neg (by rw [n_le (by omega) (by omega)]; omega), ld_n (by omega) (by decide), Option.bind_some, b2, byt_dgt _ b1, Option.bind_some, av_no y, if_pos (show zb false = 0 from rfl)]
    · rw [f_X10_splits_L75, if_pos (by rw [n_le (by omega) (by omega)]; omega)]
theorem sp_L169 (hT : TX μ T n) {s e i : Nat} (hs : s < e) (he : e ≤ n) (hd : ∀ k, s ≤ k → k < e → dgt (T k) = true) (hi : i < 400) (h18 : μ.1 179 18 = Int32.ofNat i) (h0 : μ.1 189 i = 0) (c7 : Int32 → hm_M → Option hm_M) (e263 e247 : hm_M → Option hm_M) : ∃ m, m.2 = μ.2 ∧ (∀ a j, ¬ (a = 189 ∧ j = i) → m.1 a j = μ.1 a j) ∧ m.1 189 i = Int32.ofNat (vlu T s (e - s)) ∧ f_X10_splits_L169 (Int32.ofNat n) (byt (T s)) (Int32.ofNat e) c7 e263 e247 hm_fu (Int32.ofNat s) μ = e247 m := by
  have hn := hT.1
  refine lo2 (L := f_X10_splits_L169 (Int32.ofNat n) (byt (T s)) (Int32.ofNat e) c7 e263 e247) (fun k y m => y = Int32.ofNat (s + k) ∧ m.2 = μ.2 ∧ (∀ a j, ¬ (a = 189 ∧ j = i) → m.1 a j = μ.1 a j) ∧ m.1 189 i = Int32.ofNat (vlu T s k)) (fun o => ∃ m, m.2 = μ.2 ∧ (∀ a j, ¬ (a = 189 ∧ j = i) → m.1 a j = μ.1 a j) ∧ m.1 189 i = Int32.ofNat (vlu T s (e - s)) ∧ o = e247 m) (e - s) (fun k y m hk hI => Or.inl ?_) (fun y m hI F => ?_) (fu_lt (by omega)) ⟨rfl, rfl, fun _ _ _ => rfl, h0⟩
  · obtain ⟨rfl, f1, f2, f3⟩ := hI
    obtain ⟨b1, b2⟩ := hT.2 (s + k) (by omega)
    obtain ⟨s1, s2⟩ := hT.2 s (by omega)
    have q1 := of_decide_eq_true (hd (s + k) (by omega) (by omega))
    have v1 := (vl9_v (T := T) (s := s) k fun j hj => hd (s + j) (by omega) (by omega)).2
    have d3 : byt (T (s + k)) = Int32.ofNat (T (s + k)) := by unfold byt; rw [if_pos (by omega)]
    have k18 : m.1 179 18 = Int32.ofNat i := by rw [f2 _ _ (by omega)]; exact h18
    refine ⟨_, hm_wI m 189 i (Int32.ofNat (vlu T s (k + 1))), ⟨rfl, f1, fun a j z => by rw [wI_ne (by omega)]; exact f2 a j z, wI_at _ _ _ _⟩, fun F => ?_⟩
    rw [f_X10_splits_L169, if_neg (by rw [n_le (by omega) (by omega)]; omega), byt_dgt _ s1, Option.bind_some, hd s (by omega) (by omega), if_neg (show ¬ zb true = 0 by decide), k18, ld_n (by omega) (by decide), Option.bind_some, f3]
    unfold f_X10_splits_J240
    have e1 : vlu T s (k + 1) = if vlu T s k ≤ 1000000 then 10 * vlu T s k + T (s + k) - 48 else vlu T s k := rfl
    by_cases y : vlu T s k ≤ 1000000
    · rw [if_pos (by rw [show (1000000 : Int32) = Int32.ofNat 1000000 from rfl, n_le (by omega) (by omega)]; exact y), Option.bind_some, ld_n (by omega) (by decide), Option.bind_some, f2 186 _ (by omega), b2, d3, show (10 : Int32) = Int32.ofNat 10 from rfl, n_mul, n_add, show (48 : Int32) = Int32.ofNat 48 from rfl, n_sub (by omega), sd_n (by omega) (by decide), Option.bind_some, e1, if_pos y, show Int32.ofNat (s + k) + 1 = Int32.ofNat (s + (k + 1)) from n_add (s + k) 1]
    · rw [if_neg (by rw [show (1000000 : Int32) = Int32.ofNat 1000000 from rfl, n_le (by omega) (by omega)]; exact y), Option.bind_some, sd_n (by omega) (by decide), Option.bind_some, e1, if_neg y, show Int32.ofNat (s + k) + 1 = Int32.ofNat (s + (k + 1)) from n_add (s + k) 1]
  · obtain ⟨rfl, f1, f2, f3⟩ := hI
    refine ⟨m, f1, f2, f3, ?_⟩
    rw [f_X10_splits_L169, if_pos (by rw [n_le (by omega) (by omega)]; omega)]
end
/-- the first i tokens are laid -/
def TK (m : hm_M) (T : Nat → Nat) (n i : Nat) : Prop := ∀ k, k < i → m.1 190 k = Int32.ofNat (tst T n k) ∧ m.1 188 k = Int32.ofNat (tkc T n k) ∧ m.1 189 k = Int32.ofNat (vlc T n k)
def fk (μ m : hm_M) : Prop := m.2 = μ.2 ∧ ∀ a j, ¬ (a = 179 ∧ j = 18) → a ≠ 188 → a ≠ 189 → a ≠ 190 → m.1 a j = μ.1 a j
theorem fk_refl (μ : hm_M) : fk μ μ := ⟨rfl, fun _ _ _ _ _ _ => rfl⟩
theorem fk_trans {μ m m1 : hm_M} (h : fk μ m) (g : fk m m1) : fk μ m1 := ⟨g.1.trans h.1, fun a j h1 h2 h3 h4 => (g.2 a j h1 h2 h3 h4).trans (h.2 a j h1 h2 h3 h4)⟩
theorem TX.fk {μ m : hm_M} {T : Nat → Nat} {n : Nat} (h : TX μ T n) (f : fk μ m) : TX m T n := ⟨h.1, fun i hi => ⟨(h.2 i hi).1, by rw [f.2 _ _ (by omega) (by omega) (by omega) (by omega)]; exact (h.2 i hi).2⟩⟩
theorem PC.fk {μ m : hm_M} (h : PC μ) (f : fk μ m) : PC m := h.same fun j => f.2 _ _ (by omega) (by omega) (by omega) (by omega)
theorem sp_one {m : hm_M} {T : Nat → Nat} {n i : Nat} (hT : TX m T n) (hC : PC m) (hk : TK m T n i) (hi : tst T n i < n) (h18 : m.1 179 18 = Int32.ofNat i) (F : Nat) (e263 : hm_M → Option hm_M) : ∃ m1, fk m m1 ∧ TK m1 T n (i + 1) ∧ m1.1 179 18 = Int32.ofNat (i + 1) ∧ f_X10_splits_L7 (Int32.ofNat n) e263 (F + 1) (Int32.ofNat (tst T n i)) m = f_X10_splits_L7 (Int32.ofNat n) e263 F (Int32.ofNat (ten T n (tst T n i))) m1 := by
  have hge := tst_ge i hi
  have hns := tst_ns i hi
  have tk1 : tkc T n i = cod T n (tst T n i) := if_pos hi
  have vl1 : vlc T n i = if tst T n i < n ∧ dgt (T (tst T n i)) = true then vlu T (tst T n i) (ten T n (tst T n i) - tst T n i) else 0 := rfl
  have ts1 : tst T n i = tst T n i := rfl
  generalize hs : tst T n i = s at hi hge hns tk1 vl1 ⊢
  obtain ⟨hn, hT2⟩ := id hT
  obtain ⟨b1, b2⟩ := hT2 s hi
  have hte := ten_p (T := T) hi
  have start : f_X10_splits_L7 (Int32.ofNat n) e263 (F + 1) (Int32.ofNat s) m = f_X10_splits_J100 (Int32.ofNat n) (f_X10_splits_L7 (Int32.ofNat n) e263 F) e263 (Int32.ofNat s) (byt (T s)) (Int32.ofNat (ten T n s)) m := by
    have n32 : byt (T s) ≠ 32 := fun z => by
      have := (byt_w _ b1 32 (by omega)).1 z.symm
      rw [this] at hns
      exact absurd hns (by decide)
    rw [f_X10_splits_L7, if_neg (by rw [n_le (by omega) (by omega)]; omega), ld_n (by omega) (by decide), Option.bind_some, b2, if_neg n32, byt_sml _ b1, Option.bind_some, show Int32.ofNat s + 1 = Int32.ofNat (s + 1) from n_add s 1]
    unfold ten
    cases c1 : sml (T s) with
    | true =>
      have c2 : dgt (T s) = false := by
        have := of_decide_eq_true c1
        exact decide_eq_false (by omega)
      rw [if_neg (show ¬ zb true = 0 by decide), sp_L43 hT (by omega), if_pos rfl]
      unfold f_X10_splits_J68
      rw [byt_dgt _ b1, Option.bind_some, c2, if_pos (show zb false = 0 from rfl)]
    | false =>
      rw [if_pos (show zb false = 0 from rfl), if_neg (by decide)]
      unfold f_X10_splits_J68
      rw [byt_dgt _ b1, Option.bind_some]
      cases c2 : dgt (T s) with
      | true => rw [if_neg (show ¬ zb true = 0 by decide), sp_L75 hT (by omega), if_pos rfl]
      | false => rw [if_pos (show zb false = 0 from rfl), if_neg (by decide)]
  have fkA : fk m (hm_wI (hm_wI m 190 i (Int32.ofNat s)) 189 i 0) := ⟨rfl, fun a j h1 h2 h3 h4 => by rw [wI_ne (by omega), wI_ne (by omega)]⟩
  have fin : ∀ m1 : hm_M, fk m m1 → (∀ k, k < i → m1.1 190 k = m.1 190 k ∧ m1.1 188 k = m.1 188 k ∧ m1.1 189 k = m.1 189 k) → m1.1 190 i = Int32.ofNat s → m1.1 188 i = Int32.ofNat (tkc T n i) → m1.1 189 i = Int32.ofNat (vlc T n i) → m1.1 179 18 = Int32.ofNat i → ∃ m2, fk m m2 ∧ TK m2 T n (i + 1) ∧ m2.1 179 18 = Int32.ofNat (i + 1) ∧ f_X10_splits_J247 (Int32.ofNat n) (f_X10_splits_L7 (Int32.ofNat n) e263 F) e263 (Int32.ofNat (ten T n s)) m1 = f_X10_splits_L7 (Int32.ofNat n) e263 F (Int32.ofNat (ten T n s)) m2 := by
    intro m1 f1 f2 f3 f4 f5 f6
    refine ⟨hm_wI m1 179 18 (Int32.ofNat (i + 1)), ⟨f1.1, fun a j h1 h2 h3 h4 => by rw [wI_ne (by omega)]; exact f1.2 a j h1 h2 h3 h4⟩, fun k hkk => ?_, wI_at _ _ _ _, ?_⟩
    · rw [wI_ne (by omega), wI_ne (by omega), wI_ne (by omega)]
      by_cases y : k = i
      · rw [y, hs]
        exact ⟨f3, f4, f5⟩
      · obtain ⟨g1, g2, g3⟩ := f2 k (by omega)
        rw [g1, g2, g3]
        exact hk k (by omega)
    · unfold f_X10_splits_J247
      rw [f6, pI_some, Option.bind_some, show Int32.ofNat i + 1 = Int32.ofNat (i + 1) from n_add i 1]
  have key : ∀ c : Nat, c = tkc T n i → ∃ m2, fk m m2 ∧ TK m2 T n (i + 1) ∧ m2.1 179 18 = Int32.ofNat (i + 1) ∧ f_X10_splits_J165 (Int32.ofNat n) (f_X10_splits_L7 (Int32.ofNat n) e263 F) e263 (Int32.ofNat c) (Int32.ofNat i) (Int32.ofNat s) (byt (T s)) (Int32.ofNat (ten T n s)) (hm_wI (hm_wI m 190 i (Int32.ofNat s)) 189 i 0) = f_X10_splits_L7 (Int32.ofNat n) e263 F (Int32.ofNat (ten T n s)) m2 := by
    intro c hc1
    unfold f_X10_splits_J165
    rw [sd_n (by omega) (by decide), Option.bind_some]
    have fkB : fk m (hm_wI (hm_wI (hm_wI m 190 i (Int32.ofNat s)) 189 i 0) 188 i (Int32.ofNat c)) := ⟨rfl, fun a j h1 h2 h3 h4 => by rw [wI_ne (by omega), wI_ne (by omega), wI_ne (by omega)]⟩
    cases c2 : dgt (T s) with
    | false =>
      rw [show ∀ E : hm_M → Option hm_M, f_X10_splits_L169 (Int32.ofNat n) (byt (T s)) (Int32.ofNat (ten T n s)) (f_X10_splits_L7 (Int32.ofNat n) e263 F) e263 E hm_fu (Int32.ofNat s) (hm_wI (hm_wI (hm_wI m 190 i (Int32.ofNat s)) 189 i 0) 188 i (Int32.ofNat c)) = E (hm_wI (hm_wI (hm_wI m 190 i (Int32.ofNat s)) 189 i 0) 188 i (Int32.ofNat c)) from fun E => by
        show f_X10_splits_L169 (Int32.ofNat n) (byt (T s)) (Int32.ofNat (ten T n s)) (f_X10_splits_L7 (Int32.ofNat n) e263 F) e263 E (999999 + 1) (Int32.ofNat s) _ = _
        rw [f_X10_splits_L169, if_neg (by rw [n_le (by omega) (by omega)]; omega), byt_dgt _ b1, Option.bind_some, c2, if_pos (show zb false = 0 from rfl)]]
      refine fin _ fkB (fun k hk2 => ?_) ?_ ?_ ?_ ?_
      · rw [wI_ne (by omega), wI_ne (by omega), wI_ne (by omega), wI_ne (by omega), wI_ne (by omega), wI_ne (by omega), wI_ne (by omega), wI_ne (by omega), wI_ne (by omega)]
        exact ⟨rfl, rfl, rfl⟩
      · rw [wI_ne (by omega), wI_ne (by omega), wI_at]
      · rw [wI_at, hc1]
      · rw [wI_ne (by omega), wI_at, vl1, if_neg fun z => by rw [c2] at z; cases z.2]
        rfl
      · rw [wI_ne (by omega), wI_ne (by omega), wI_ne (by omega)]
        exact h18
    | true =>
      have et : ten T n s = av dgt T n (s + 1) := by
        unfold ten
        have := of_decide_eq_true c2
        rw [if_neg (show ¬ sml (T s) = true from fun z => by have := of_decide_eq_true z; omega), if_pos c2]
      obtain ⟨m3, g1, g2, g3, g4⟩ := sp_L169 (hT.fk fkB) (s := s) (e := ten T n s) (i := i) hte.1 hte.2 (fun k h1 h2 => by
        by_cases y : k = s
        · rw [y]; exact c2
        · rw [et] at h2
          exact (av_in (by omega) h2).2) (by omega) (by rw [wI_ne (by omega), wI_ne (by omega), wI_ne (by omega)]; exact h18) (by rw [wI_ne (by omega), wI_at]) (f_X10_splits_L7 (Int32.ofNat n) e263 F) e263 (fun μz17 => f_X10_splits_J247 (Int32.ofNat n) (f_X10_splits_L7 (Int32.ofNat n) e263 F) e263 (Int32.ofNat (ten T n s)) μz17)
      rw [g4]
      refine fin m3 (fk_trans fkB ⟨g1, fun a j h1 h2 h3 h4 => g2 a j (by omega)⟩) (fun k hk2 => ?_) ?_ ?_ ?_ ?_
      · rw [g2 _ _ (by omega), g2 _ _ (by omega), g2 _ _ (by omega), wI_ne (by omega), wI_ne (by omega), wI_ne (by omega), wI_ne (by omega), wI_ne (by omega), wI_ne (by omega), wI_ne (by omega), wI_ne (by omega), wI_ne (by omega)]
        exact ⟨rfl, rfl, rfl⟩
      · rw [g2 _ _ (by omega), wI_ne (by omega), wI_ne (by omega), wI_at]
      · rw [g2 _ _ (by omega), wI_at, hc1]
      · rw [g3, vl1, if_pos ⟨hi, c2⟩]
      · rw [g2 _ _ (by omega), wI_ne (by omega), wI_ne (by omega), wI_ne (by omega)]
        exact h18
  rw [start]
  unfold f_X10_splits_J100
  rw [h18, sd_n (by omega) (by decide), Option.bind_some, wI_ne (by omega), h18, sd_n (by omega) (by decide), Option.bind_some, byt_sml _ b1, Option.bind_some, byt_dgt _ b1, wI_ne (by omega), wI_ne (by omega), h18]
  have tk2 : tkc T n i = if sml (T s) = true then wdn T s (ten T n s) else if dgt (T s) = true then 50 else 100 + T s := tk1
  cases c1 : sml (T s) with
  | true =>
    rw [c1, if_pos rfl] at tk2
    rw [if_neg (show ¬ zb true = 0 by decide), t_word (hC.fk fkA) (hT.fk fkA) (by omega) hte.2, Option.bind_some]
    exact key _ tk2.symm
  | false =>
    rw [c1, if_neg (by decide)] at tk2
    rw [if_pos (show zb false = 0 from rfl), Option.bind_some]
    cases c2 : dgt (T s) with
    | true =>
      rw [c2, if_pos rfl] at tk2
      rw [if_neg (show ¬ zb true = 0 by decide)]
      exact key 50 tk2.symm
    | false =>
      rw [c2, if_neg (by decide)] at tk2
      rw [if_pos (show zb false = 0 from rfl), byt_100 _ b1]
      exact key _ tk2.symm
theorem sp_all {T : Nat → Nat} {n : Nat} (e263 : hm_M → Option hm_M) : ∀ d p i F m, n - p ≤ d → d < F → p ≤ n → av spc T n p = tst T n i → (∀ k, k < i → tst T n k < n) → TX m T n → PC m → TK m T n i → m.1 179 18 = Int32.ofNat i → ∃ m1, fk m m1 ∧ TK m1 T n (tmy T n) ∧ m1.1 179 18 = Int32.ofNat (tmy T n) ∧ f_X10_splits_L7 (Int32.ofNat n) e263 F (Int32.ofNat p) m = e263 m1
  | d, p, i, 0, m, _, h, _, _, _, _, _, _, _ => absurd h (Nat.not_lt_zero d)
  | d, p, i, F + 1, m, hd, hF, hp, ha, hi, hT, hC, hk, h18 => by
    have hn := hT.1
    by_cases y : p < n
    · match d, hd, hF with
      | 0, hd, hF => omega
      | d + 1, hd, hF =>
        by_cases z : T p = 32
        · obtain ⟨b1, b2⟩ := hT.2 p y
          obtain ⟨m1, r1, r2, r3, r4⟩ := sp_all (T := T) (n := n) e263 d (p + 1) i F m (by omega) (by omega) (by omega) (by rw [← ha, av_go (q := spc) y (decide_eq_true z)]) hi hT hC hk h18
          refine ⟨m1, r1, r2, r3, ?_⟩
          rw [f_X10_splits_L7, if_neg (by rw [n_le (by omega) (by omega)]; omega), ld_n (by omega) (by decide), Option.bind_some, b2, if_pos (show byt (T p) = 32 from ((byt_w _ b1 32 (by omega)).2 z).symm), show Int32.ofNat p + 1 = Int32.ofNat (p + 1) from n_add p 1]
          exact r4
        · have ep : tst T n i = p := by
            rw [← ha]
            exact av_st fun q => z (of_decide_eq_true q.2)
          have hte := ten_p (T := T) y
          obtain ⟨m1, f1, f2, f3, f4⟩ := sp_one hT hC hk (by omega) h18 F e263
          rw [ep] at f4
          obtain ⟨m2, r1, r2, r3, r4⟩ := sp_all (T := T) (n := n) e263 d (ten T n p) (i + 1) F m1 (by omega) (by omega) hte.2 (by
            show _ = if tst T n i < n then av spc T n (ten T n (tst T n i)) else n
            rw [ep, if_pos y]) (fun k hkk => by
            by_cases w : k = i
            · rw [w, ep]; exact y
            · exact hi k (by omega)) (hT.fk f1) (hC.fk f1) f2 f3
          exact ⟨m2, fk_trans f1 r1, r2, r3, f4.trans r4⟩
    · have ep : tst T n i = n := by
        rw [← ha, av_st (by omega)]
        omega
      have ei : i = tmy T n := by
        have h1 := tmy_lt (T := T) (n := n) (k := i)
        have h2 : tmy T n ≤ i := by
          apply Decidable.byContradiction
          intro w
          have := h1.1 (by omega)
          omega
        apply Decidable.byContradiction
        intro w
        have := hi (tmy T n) (by omega)
        have := (tmy_p T n).2.1
        omega
      refine ⟨m, fk_refl m, by rw [← ei]; exact hk, by rw [← ei]; exact h18, ?_⟩
      rw [f_X10_splits_L7, if_pos (by rw [n_le (by omega) (by omega)]; omega)]
theorem sp_full {μ : hm_M} {T : Nat → Nat} {n : Nat} (hT : TX μ T n) (hC : PC μ) : ∃ m, fk μ m ∧ TK m T n (tmy T n + 1) ∧ m.1 179 18 = Int32.ofNat (tmy T n) ∧ f_X10_splits (Int32.ofNat n) μ = some m := by
  have hn := hT.1
  obtain ⟨q1, q2, q3⟩ := tmy_p T n
  unfold f_X10_splits
  rw [pI_some, Option.bind_some]
  have f0 : fk μ (hm_wI μ 179 18 0) := ⟨rfl, fun a j h1 h2 h3 h4 => wI_ne (by omega)⟩
  obtain ⟨m1, r1, r2, r3, r4⟩ := sp_all (T := T) (n := n) (fun μz26 => Option.bind (hm_sd μz26 190 401 (μz26.1 179 18) (Int32.ofNat n)) fun μ27 => Option.bind (hm_sd μ27 188 401 (μ27.1 179 18) (0 : Int32)) fun μ28 => Option.bind (hm_sd μ28 189 401 (μ28.1 179 18) (0 : Int32)) fun μ29 => some μ29) n 0 0 hm_fu (hm_wI μ 179 18 0) (by omega) (fu_lt (by omega)) (by omega) rfl (fun k hk => absurd hk (Nat.not_lt_zero k)) (hT.fk f0) (hC.fk f0) (fun k hk => absurd hk (Nat.not_lt_zero k)) (wI_at _ _ _ _)
  refine ⟨hm_wI (hm_wI (hm_wI m1 190 (tmy T n) (Int32.ofNat n)) 188 (tmy T n) 0) 189 (tmy T n) 0, fk_trans f0 (fk_trans r1 ⟨rfl, fun a j h1 h2 h3 h4 => by rw [wI_ne (by omega), wI_ne (by omega), wI_ne (by omega)]⟩), fun k hk => ?_, by rw [wI_ne (by omega), wI_ne (by omega), wI_ne (by omega)]; exact r3, r4.trans ?_⟩
  · by_cases y : k = tmy T n
    · have t1 : tkc T n k = 0 := by unfold tkc; rw [y, q2]; exact if_neg (by omega)
      have t2 : vlc T n k = 0 := by unfold vlc; rw [y, q2]; exact if_neg (by omega)
      rw [t1, t2, y, q2, wI_ne (by omega), wI_ne (by omega), wI_at, wI_ne (by omega), wI_at, wI_at]
      exact ⟨rfl, rfl, rfl⟩
    · rw [wI_ne (by omega), wI_ne (by omega), wI_ne (by omega), wI_ne (by omega), wI_ne (by omega), wI_ne (by omega), wI_ne (by omega), wI_ne (by omega), wI_ne (by omega)]
      exact r2 k (by omega)
  · rw [r3, sd_n (by omega) (by decide), Option.bind_some, wI_ne (by omega), r3, sd_n (by omega) (by decide), Option.bind_some, wI_ne (by omega), wI_ne (by omega), r3, sd_n (by omega) (by decide), Option.bind_some]
end
