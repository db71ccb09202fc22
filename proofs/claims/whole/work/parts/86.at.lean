section
/-! What stands at a token. -/
section
variable {μ : hm_M} {T : Nat → Nat} {n i : Nat}
theorem AT.cls (h : AT μ T n i) : (tst T n i = n ∧ tkc T n i = 0 ∧ μ.1 150 4 = 3) ∨ (tst T n i < n ∧ sml (T (tst T n i)) = true ∧ tkc T n i = wdn T (tst T n i) (ten T n (tst T n i)) ∧ μ.1 150 4 = 0 ∧ μ.1 150 6 = Int32.ofNat (ten T n (tst T n i))) ∨ (tst T n i < n ∧ tkc T n i = 50 ∧ μ.1 150 4 = 1 ∧ μ.1 150 7 = Int32.ofNat (min (vlc T n i) 1001)) ∨ (tst T n i < n ∧ tkc T n i = 100 + T (tst T n i) ∧ μ.1 150 4 = 2 ∧ μ.1 150 7 = Int32.ofNat (T (tst T n i))) := by
  obtain ⟨h1, h2, h3⟩ := h
  have hle := tst_le T n i
  unfold kv at h3
  have e1 : tkc T n i = if tst T n i < n then cod T n (tst T n i) else 0 := rfl
  have e2 : vlc T n i = if tst T n i < n ∧ dgt (T (tst T n i)) = true then vlu T (tst T n i) (ten T n (tst T n i) - tst T n i) else 0 := rfl
  by_cases y : tst T n i < n
  · rw [if_pos y] at h3 e1
    unfold cod at e1
    right
    cases c1 : sml (T (tst T n i)) with
    | true =>
      rw [c1, if_pos rfl] at h3 e1
      exact Or.inl ⟨y, rfl, e1, h3.2, h3.1⟩
    | false =>
      rw [c1, if_neg (by decide)] at h3 e1
      right
      cases c2 : dgt (T (tst T n i)) with
      | true =>
        rw [c2, if_pos rfl] at h3 e1
        rw [if_pos ⟨y, c2⟩] at e2
        rw [e2]
        exact Or.inl ⟨y, e1, h3.2⟩
      | false =>
        rw [c2, if_neg (by decide)] at h3 e1
        exact Or.inr ⟨y, e1, h3.2⟩
  · rw [if_neg y] at h3 e1
    exact Or.inl ⟨by omega, e1, h3.2⟩
theorem AT.sign (h : AT μ T n i) {c : Nat} (hc : c < 256) : f_X6_isSign (Int32.ofNat c) μ = some (zb (decide (tkc T n i = 100 + c))) := by
  unfold f_X6_isSign
  rcases h.cls with ⟨a1, a2, a3⟩ | ⟨a1, a2, a3, a4, -⟩ | ⟨a1, a2, a3, a4⟩ | ⟨a1, a2, a3, a4⟩
  · rw [a3, if_neg (by decide), a2, decide_eq_false (by omega)]; rfl
  · have := wdn_le T (tst T n i) (ten T n (tst T n i))
    rw [a4, if_neg (by decide), a3, decide_eq_false (by omega)]; rfl
  · rw [a3, if_neg (by decide), a2, decide_eq_false (by omega)]; rfl
  · have b1 := (h.1.2.1 _ a1).1
    rw [a3, if_pos rfl, a4, a2]
    by_cases y : T (tst T n i) = c
    · rw [if_pos (by rw [y]), decide_eq_true (by omega)]; rfl
    · rw [if_neg (by rw [n_eq (by omega) (by omega)]; exact y), decide_eq_false (by omega)]; rfl
theorem AT.num (h : AT μ T n i) {a b : Nat} (ha : a ≤ 1000) (hb : b ≤ 1000) : f_X6_isNumber (Int32.ofNat a) (Int32.ofNat b) μ = some (zb (decide (tkc T n i = 50 ∧ a ≤ vlc T n i ∧ vlc T n i ≤ b))) := by
  unfold f_X6_isNumber
  rcases h.cls with ⟨a1, a2, a3⟩ | ⟨a1, a2, a3, a4, -⟩ | ⟨a1, a2, a3, a4⟩ | ⟨a1, a2, a3, a4⟩
  · rw [a3, if_neg (by decide), decide_eq_false (by omega)]; rfl
  · have := wdn_le T (tst T n i) (ten T n (tst T n i))
    rw [a4, if_neg (by decide), decide_eq_false (by omega)]; rfl
  · rw [a3, if_pos rfl, a4]
    by_cases y1 : vlc T n i < a
    · rw [if_pos (by rw [n_lt (by omega) (by omega)]; omega), decide_eq_false (by omega)]; rfl
    · rw [if_neg (by rw [n_lt (by omega) (by omega)]; omega)]
      by_cases y2 : b < vlc T n i
      · rw [if_pos (by rw [n_lt (by omega) (by omega)]; omega), decide_eq_false (by omega)]; rfl
      · rw [if_neg (by rw [n_lt (by omega) (by omega)]; omega), decide_eq_true (by omega)]; rfl
  · rw [a3, if_neg (by decide), decide_eq_false (by omega)]; rfl
theorem AT.val (h : AT μ T n i) (h1 : tkc T n i = 50) (h2 : vlc T n i ≤ 1000) : μ.1 150 7 = Int32.ofNat (vlc T n i) := by
  rcases h.cls with ⟨a1, a2, a3⟩ | ⟨a1, a2, a3, a4, -⟩ | ⟨a1, a2, a3, a4⟩ | ⟨a1, a2, a3, a4⟩
  · omega
  · have := wdn_le T (tst T n i) (ten T n (tst T n i))
    omega
  · rw [a4, Nat.min_eq_left (by omega)]
  · omega
theorem AT.fin (h : AT μ T n i) : μ.1 150 4 = 3 ↔ tmy T n ≤ i := by
  have k := tmy_lt (T := T) (n := n) (k := i)
  rcases h.cls with ⟨a1, a2, a3⟩ | ⟨a1, a2, a3, a4, -⟩ | ⟨a1, a2, a3, a4⟩ | ⟨a1, a2, a3, a4⟩
  · exact ⟨fun _ => by apply Decidable.byContradiction; intro z; have := k.1 (by omega); omega, fun _ => a3⟩
  · have := k.2 a1
    rw [a4]
    exact ⟨fun z => absurd z (by decide), fun z => by omega⟩
  · have := k.2 a1
    rw [a3]
    exact ⟨fun z => absurd z (by decide), fun z => by omega⟩
  · have := k.2 a1
    rw [a3]
    exact ⟨fun z => absurd z (by decide), fun z => by omega⟩
theorem plc_no {v c : Nat} (hv : v < 10) (hc : c = 0 ∨ 29 < c) : plc v c = -1 := by
  refine plx_no _ 0 fun j hj z => ?_
  obtain ⟨u1, -⟩ := s_wrd v hv j hj
  have : sW v j = c := z
  omega
theorem AT.place (h : AT μ T n i) {v : Nat} (hv : v < 10) : f_X6_placeIn v μ = some (plc v (tkc T n i)) := by
  have np : ¬ μ.1 150 4 = 0 → tkc T n i = 0 ∨ 29 < tkc T n i → f_X6_placeIn v μ = some (plc v (tkc T n i)) := fun h1 h2 => by
    unfold f_X6_placeIn
    rw [if_neg h1, plc_no hv h2]
  rcases h.cls with ⟨a1, a2, a3⟩ | ⟨a1, a2, a3, a4, a5⟩ | ⟨a1, a2, a3, a4⟩ | ⟨a1, a2, a3, a4⟩
  · exact np (by rw [a3]; decide) (by omega)
  · have hte := ten_p (T := T) a1
    rw [a3]
    exact pl_word h.1 a4 h.2.1 a5 (by omega) hte.2 hv
  · exact np (by rw [a3]; decide) (by omega)
  · exact np (by rw [a3]; decide) (by omega)
end
/-! The component's program as it grows. -/
def fl5 (x : Int32) (ord : Bool) (C : pc_C) : Prop := x = 1 ∨ (x = 0 ∧ (ord = true → ∀ (k : Nat) (q : Int32 × Int32), C[k]? = some q → q.1 = 1 → q.2 ≠ 4))
theorem fl5_01 {x : Int32} {ord : Bool} {C : pc_C} (h : fl5 x ord C) : x = 0 ∨ x = 1 := h.elim Or.inr fun z => Or.inl z.1
theorem fl5_app {x : Int32} {ord : Bool} {C : pc_C} (h : fl5 x ord C) {a b : Int32} (hx : a = 1 → b ≠ 4 ∨ x = 1 ∨ ord = false) : fl5 x ord (C ++ [(a, b)]) := by
  rcases h with h | ⟨h, g⟩
  · exact Or.inl h
  · refine Or.inr ⟨h, fun ho k q hk h1 => ?_⟩
    by_cases z : k < C.length
    · rw [List.getElem?_append_left z] at hk
      exact g ho k q hk h1
    · have hk2 : k = C.length := by
        have := (List.getElem?_eq_some_iff.mp hk).1
        rw [List.length_append] at this
        simp only [List.length_cons, List.length_nil] at this
        omega
      subst hk2
      rw [List.getElem?_append_right (Nat.le_refl _), Nat.sub_self] at hk
      cases hk
      rcases hx h1 with y | y | y
      · exact y
      · rw [h] at y; exact absurd y (by decide)
      · rw [ho] at y; cases y
theorem fl5_leap {x : Int32} {ord : Bool} {C : pc_C} {k : Nat} (h : fl5 x ord C) (hk : k < C.length) (ho : ∀ q, C[k]? = some q → q.1 ≠ 1) : fl5 x ord (pc_leap C k) := by
  rcases h with h | ⟨h, g⟩
  · exact Or.inl h
  · refine Or.inr ⟨h, fun o i q hi h1 => ?_⟩
    unfold pc_leap at hi
    by_cases y : i = k
    · subst y
      rw [List.getElem?_set_self hk] at hi
      cases hi
      have e1 : C[i]? = some (C[i]'hk) := List.getElem?_eq_getElem hk
      have h2 := ho _ e1
      rw [List.getD_eq_getElem?_getD, e1] at h1
      exact absurd h1 h2
    · rw [List.getElem?_set_ne (by omega)] at hi
      exact g o i q hi h1
def QB (μ : hm_M) (T : Nat → Nat) (n : Nat) (ord : Bool) (l d : Nat) (C : pc_C) : Prop := (μ.1 150 3 = zb (!ord) ∧ μ.1 150 8 = Int32.ofNat l ∧ μ.1 150 9 = Int32.ofNat d ∧ l ≤ 50 ∧ d ≤ 8) ∧ (hm_ln μ 152 = 400 ∧ hm_ln μ 153 = 400 ∧ hm_ln μ 154 = 72) ∧ μ.1 151 3 = Int32.ofNat C.length ∧ fl5 (μ.1 151 5) ord C ∧ ∀ k x, C[k]? = some x → μ.1 152 k = x.1 ∧ μ.1 153 k = x.2
def QA (μ : hm_M) (T : Nat → Nat) (n : Nat) (ord : Bool) (i l d : Nat) (C : pc_C) : Prop := AT μ T n i ∧ (i ≤ tmy T n ∧ C.length ≤ i) ∧ QB μ T n ord l d C
def fw (μ m : hm_M) : Prop := m.2 = μ.2 ∧ ∀ a j, ¬ (a = 150 ∧ 4 ≤ j ∧ j ≤ 9) → ¬ (a = 151 ∧ (j = 3 ∨ j = 5)) → a ≠ 152 → a ≠ 153 → m.1 a j = μ.1 a j
theorem fw_refl (μ : hm_M) : fw μ μ := ⟨rfl, fun _ _ _ _ _ _ => rfl⟩
theorem fw_trans {μ m m1 : hm_M} (h : fw μ m) (g : fw m m1) : fw μ m1 := ⟨g.1.trans h.1, fun a j z z1 z2 z3 => (g.2 a j z z1 z2 z3).trans (h.2 a j z z1 z2 z3)⟩
theorem fg_fw {μ m : hm_M} (f : fg μ m) : fw μ m := ⟨f.1, fun a j z _ _ _ => f.2 a j (by omega)⟩
theorem QB.fg {μ m : hm_M} {T : Nat → Nat} {n : Nat} {ord : Bool} {l d : Nat} {C : pc_C} (h : QB μ T n ord l d C) (f : fg μ m) : QB m T n ord l d C := by
  obtain ⟨⟨a1, a2, a3, a4, a5⟩, ⟨b1, b2, b3⟩, c1, c2, c3⟩ := h
  have e : hm_ln m = hm_ln μ := by unfold hm_ln; rw [f.1]
  refine ⟨⟨?_, ?_, ?_, a4, a5⟩, ⟨by rw [e]; exact b1, by rw [e]; exact b2, by rw [e]; exact b3⟩, ?_, ?_, fun k x hk => ?_⟩
  · rw [f.2 _ _ (by omega)]; exact a1
  · rw [f.2 _ _ (by omega)]; exact a2
  · rw [f.2 _ _ (by omega)]; exact a3
  · rw [f.2 _ _ (by omega)]; exact c1
  · rw [f.2 _ _ (by omega)]; exact c2
  · rw [f.2 _ _ (by omega), f.2 _ _ (by omega)]; exact c3 k x hk
end
