section
/-! The reference's words. -/
def TX (μ : hm_M) (T : Nat → Nat) (n : Nat) : Prop := n ≤ 400 ∧ ∀ i, i < n → T i < 256 ∧ μ.1 186 i = byt (T i)
theorem byt_w : ∀ b, b < 256 → ∀ w, w < 123 → (Int32.ofNat w = byt b ↔ b = w) := by
  intro b hb w hw
  unfold byt
  split
  next h =>
    rw [n_eq (by omega) (by omega)]
    omega
  next h =>
    have k : ∀ b, b < 256 → 128 ≤ b → (Int32.ofNat b - 256).toInt < 0 := by decide +kernel
    have := k b hb (by omega)
    refine ⟨fun z => ?_, fun z => by omega⟩
    rw [← z, n_toInt (by omega)] at this
    omega
theorem byt_sml : ∀ b, b < 256 → f_X10_isSmall (byt b) = some (zb (sml b)) := by decide +kernel
theorem byt_dgt : ∀ b, b < 256 → f_X10_isDigit (byt b) = some (zb (dgt b)) := by decide +kernel
theorem byt_100 : ∀ b, b < 256 → 100 + (byt b &&& 255) = Int32.ofNat (100 + b) := by decide +kernel
theorem t_L18 {μ : hm_M} (hC : PC μ) {k : Nat} (hk : k < 29) (v1 v2 w3 : Int32) (c5 : Int32 → Int32 → hm_M → Option Int32) (e126 : hm_M → Option Int32) (e39 : Int32 → hm_M → Option Int32) : f_X10_wordOf_L18 v1 v2 w3 (Int32.ofNat (wP k)) c5 e126 e39 hm_fu 0 μ = e39 (Int32.ofNat (wL k)) μ := by
  obtain ⟨t1, t2, t3, t4⟩ := w_tab k hk
  refine lo2 (L := f_X10_wordOf_L18 v1 v2 w3 (Int32.ofNat (wP k)) c5 e126 e39) (fun j y m => y = Int32.ofNat j ∧ m = μ) (fun o => o = e39 (Int32.ofNat (wL k)) μ) (wL k) (fun j y m hj hI => Or.inl ?_) (fun y m hI F => ?_) (fu_lt (by omega)) ⟨rfl, rfl⟩
  · obtain ⟨rfl, rfl⟩ := hI
    refine ⟨_, _, ⟨rfl, rfl⟩, fun F => ?_⟩
    have := w_let k hk j hj
    rw [f_X10_wordOf_L18, n_add, ld_n (by omega) (by decide), Option.bind_some, hC _ (by omega), if_neg, show Int32.ofNat j + 1 = Int32.ofNat (j + 1) from n_add j 1]
    rw [show (32 : Int32) = Int32.ofNat 32 from rfl, n_eq (by unfold wB at this; omega) (by omega)]
    unfold wB at this
    omega
  · obtain ⟨rfl, rfl⟩ := hI
    rw [f_X10_wordOf_L18, n_add, ld_n (by omega) (by decide), Option.bind_some, hC _ (by omega), if_pos]
    exact congrArg Int32.ofNat t4
theorem t_L57 {μ : hm_M} {T : Nat → Nat} {n s : Nat} (hC : PC μ) (hT : TX μ T n) {k : Nat} (hk : k < 29) (hs : s + wL k ≤ n) (v2 w3 : Int32) (c5 : Int32 → Int32 → hm_M → Option Int32) (e126 : hm_M → Option Int32) (e104 : Int32 → hm_M → Option Int32) : f_X10_wordOf_L57 (Int32.ofNat s) v2 w3 (Int32.ofNat (wP k)) (Int32.ofNat (wL k)) c5 e126 e104 hm_fu 1 0 μ = e104 (zb (decide (∀ j, j < wL k → T (s + j) = wB (wP k + j)))) μ := by
  obtain ⟨t1, t2, t3, t4⟩ := w_tab k hk
  obtain ⟨hn, hT⟩ := hT
  refine lo3 (L := f_X10_wordOf_L57 (Int32.ofNat s) v2 w3 (Int32.ofNat (wP k)) (Int32.ofNat (wL k)) c5 e126 e104) (fun i x y m => x = zb (decide (∀ j, j < i → T (s + j) = wB (wP k + j))) ∧ y = Int32.ofNat i ∧ m = μ) (fun o => o = e104 (zb (decide (∀ j, j < wL k → T (s + j) = wB (wP k + j)))) μ) (wL k) (fun i x y m hi hI => ?_) (fun x y m hI F => ?_) (fu_lt (by omega)) ⟨?_, rfl, rfl⟩
  · obtain ⟨rfl, rfl, rfl⟩ := hI
    by_cases c : ∀ j, j < i → T (s + j) = wB (wP k + j)
    · left
      have h1 := w_let k hk i hi
      obtain ⟨h2, h3⟩ := hT (s + i) (by omega)
      refine ⟨_, _, _, ⟨rfl, rfl, rfl⟩, fun F => ?_⟩
      rw [f_X10_wordOf_L57, if_neg (by rw [n_le (by omega) (by omega)]; omega), decide_eq_true c, if_neg (show ¬ zb true = 0 by decide), n_add, ld_n (by omega) (by decide), Option.bind_some, n_add, ld_n (by omega) (by decide), Option.bind_some, hC _ (by omega), h3, show wbytes.getD (wP k + i) 0 = wB (wP k + i) from rfl]
      have e1 := byt_w _ h2 (wB (wP k + i)) (by omega)
      unfold f_X10_wordOf_J96
      rw [show Int32.ofNat i + 1 = Int32.ofNat (i + 1) from n_add i 1]
      by_cases y : T (s + i) = wB (wP k + i)
      · rw [if_pos (e1.2 y), decide_eq_true (p := ∀ j, j < i + 1 → T (s + j) = wB (wP k + j))]
        · rfl
        · intro j hj
          by_cases z : j = i
          · rw [z]; exact y
          · exact c j (by omega)
      · rw [if_neg fun z => y (e1.1 z), decide_eq_false (p := ∀ j, j < i + 1 → T (s + j) = wB (wP k + j)) fun z => y (z i (by omega))]
        rfl
    · right
      intro F
      rw [f_X10_wordOf_L57, if_neg (by rw [n_le (by omega) (by omega)]; omega), decide_eq_false c, if_pos (show zb false = 0 from rfl), decide_eq_false (p := ∀ j, j < wL k → T (s + j) = wB (wP k + j)) fun z => c fun j hj => z j (by omega)]
  · obtain ⟨rfl, rfl, rfl⟩ := hI
    rw [f_X10_wordOf_L57, if_pos (by rw [n_le (by omega) (by omega)]; omega)]
  · rw [decide_eq_true fun j hj => absurd hj (Nat.not_lt_zero j)]
    rfl
theorem t_word {μ : hm_M} {T : Nat → Nat} {n s e : Nat} (hC : PC μ) (hT : TX μ T n) (hs : s ≤ e) (he : e ≤ n) : f_X10_wordOf (Int32.ofNat s) (Int32.ofNat e) μ = some (Int32.ofNat (wdn T s e)) := by
  have hn := hT.1
  unfold f_X10_wordOf
  refine lo3 (L := f_X10_wordOf_L5 (Int32.ofNat s) (Int32.ofNat e) (fun μz7 => some 0)) (fun k x y m => x = Int32.ofNat (k + 1) ∧ y = Int32.ofNat (wP k) ∧ m = μ ∧ ∀ j, j < k → ¬ wq T s e j) (fun o => o = some (Int32.ofNat (wdn T s e))) 29 (fun k x y m hk hI => ?_) (fun x y m hI F => ?_) (fu_lt (by omega)) ⟨rfl, rfl, rfl, fun j hj => absurd hj (Nat.not_lt_zero j)⟩
  · obtain ⟨rfl, rfl, rfl, c⟩ := hI
    obtain ⟨t1, t2, t3, t4⟩ := w_tab k hk
    have st : ∀ F, f_X10_wordOf_L5 (Int32.ofNat s) (Int32.ofNat e) (fun μz7 => some 0) (F + 1) (Int32.ofNat (k + 1)) (Int32.ofNat (wP k)) m = if wq T s e k then some (Int32.ofNat (k + 1)) else f_X10_wordOf_L5 (Int32.ofNat s) (Int32.ofNat e) (fun μz7 => some 0) F (Int32.ofNat (k + 1 + 1)) (Int32.ofNat (wP (k + 1))) m := by
      intro F
      have j104 : ∀ z : Bool, f_X10_wordOf_J104 (Int32.ofNat s) (Int32.ofNat e) (f_X10_wordOf_L5 (Int32.ofNat s) (Int32.ofNat e) (fun μz7 => some 0) F) (fun μz7 => some 0) (Int32.ofNat (k + 1)) (Int32.ofNat (wP k)) (Int32.ofNat (wL k)) (zb z) m = if z = true then some (Int32.ofNat (k + 1)) else f_X10_wordOf_L5 (Int32.ofNat s) (Int32.ofNat e) (fun μz7 => some 0) F (Int32.ofNat (k + 1 + 1)) (Int32.ofNat (wP (k + 1))) m := by
        intro z
        unfold f_X10_wordOf_J104
        cases z with
        | true => rfl
        | false =>
          rw [if_pos (show zb false = 0 from rfl), if_neg (by decide), show Int32.ofNat (k + 1) + 1 = Int32.ofNat (k + 1 + 1) from n_add (k + 1) 1, show Int32.ofNat (wL k) + 1 = Int32.ofNat (wL k + 1) from n_add (wL k) 1, n_add, t1, show wP k + (wL k + 1) = wP k + wL k + 1 by omega]
      rw [f_X10_wordOf_L5, if_neg (by rw [n_le (by omega) (by omega)]; omega), t_L18 hC hk, n_sub hs]
      unfold f_X10_wordOf_J52
      by_cases y : e = s + wL k
      · rw [if_pos (by rw [n_eq (by omega) (by omega)]; omega), t_L57 hC hT hk (by omega), j104]
        by_cases z : ∀ j, j < wL k → T (s + j) = wB (wP k + j)
        · rw [decide_eq_true z, if_pos rfl, if_pos (show wq T s e k from ⟨y, z⟩)]
        · rw [decide_eq_false z, if_neg (by decide), if_neg (show ¬ wq T s e k from fun q => z q.2)]
      · rw [if_neg (by rw [n_eq (by omega) (by omega)]; omega), if_neg (show ¬ wq T s e k from fun q => y q.1)]
        have e57 : ∀ (E : Int32 → hm_M → Option Int32), f_X10_wordOf_L57 (Int32.ofNat s) (Int32.ofNat e) (Int32.ofNat (k + 1)) (Int32.ofNat (wP k)) (Int32.ofNat (wL k)) (f_X10_wordOf_L5 (Int32.ofNat s) (Int32.ofNat e) (fun μz7 => some 0) F) (fun μz7 => some 0) E hm_fu 0 0 m = E 0 m := by
          intro E
          show f_X10_wordOf_L57 (Int32.ofNat s) (Int32.ofNat e) (Int32.ofNat (k + 1)) (Int32.ofNat (wP k)) (Int32.ofNat (wL k)) (f_X10_wordOf_L5 (Int32.ofNat s) (Int32.ofNat e) (fun μz7 => some 0) F) (fun μz7 => some 0) E (999999 + 1) 0 0 m = E 0 m
          rw [f_X10_wordOf_L57, if_pos rfl]
          split <;> rfl
        rw [e57]
        exact j104 false
    by_cases y : wq T s e k
    · right
      intro F
      rw [st, if_pos y, wdn_at y hk]
    · left
      refine ⟨_, _, _, ⟨rfl, rfl, rfl, fun j hj => ?_⟩, fun F => by rw [st, if_neg y]⟩
      by_cases z : j = k
      · rw [z]; exact y
      · exact c j (by omega)
  · obtain ⟨rfl, rfl, rfl, c⟩ := hI
    rw [f_X10_wordOf_L5, if_pos (by rw [n_le (by omega) (by decide)]; decide), wdn_no c]
    rfl
end
