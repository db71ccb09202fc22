section
/-! The reference goes along an order. -/
theorem wI_own {μ : hm_M} {a j : Nat} {x : Int32} (h : μ.1 a j = x) : hm_wI μ a j x = μ := by
  have e : (hm_wI μ a j x).1 = μ.1 := by
    funext b k
    by_cases z : b = a ∧ k = j
    · rw [wI_eq z.1 z.2, z.1, z.2, h]
    · rw [wI_ne z]
  exact Prod.ext e rfl
theorem es_self {μ : hm_M} {g i : Nat} {β : Bool} (h : μ.1 179 22 = Int32.ofNat (g + i)) (h2 : μ.1 179 24 = zb β) : es μ g i β = μ := by
  unfold es
  rw [wI_own h, wI_own h2]
theorem wJ_1 (μ : hm_M) (a j : Nat) (v : Int64) : (hm_wJ μ a j v).1 = μ.1 := rfl
theorem wJ_22 (μ : hm_M) (a j : Nat) (v : Int64) : (hm_wJ μ a j v).2.2 = μ.2.2 := rfl
variable {N : Nat} {tk vl : Nat → Nat} {e : Nat → Int32}
theorem TKs.same {m m1 : hm_M} (h : TKs m 2400 N tk vl true e) (f : ∀ a j, ¬ (a = 179 ∧ (j = 22 ∨ j = 24)) → m1.1 a j = m.1 a j) : TKs m1 2400 N tk vl true e := by
  obtain ⟨h1, h2, h3, h4, h5, -, h7⟩ := h
  refine ⟨h1, fun k hk => ?_, h3, by rw [f _ _ (by omega)]; exact h4, by rw [f _ _ (by omega)]; exact h5, (fun z => by cases z), fun _ m2 f2 => h7 rfl m2 fun a j z => (f2 a j z).trans (f a j z)⟩
  rw [f _ _ (by omega), f _ _ (by omega)]
  exact h2 k hk
theorem TKs.mk' {m : hm_M} {ρ : Nat → Int32} {D : Nat} {la lo : Int32} (hρ : m.1 181 = ρ) (hD : DW ρ) (hN : N ≤ 400) (ht : ∀ k, k < N → ρ (65 + 2400 + k) = Int32.ofNat (tk k) ∧ ρ (2865 + 2400 + k) = Int32.ofNat (vl k) ∧ tk k < 400 ∧ vl k < 100000000) (h0 : ∀ k, N ≤ k → tk k = 0) (h23 : m.1 179 23 = Int32.ofNat (2400 + N)) (h25 : m.1 179 25 = zb true) (h27 : m.1 179 27 = Int32.ofNat D) (h28 : m.1 179 28 = la) (h29 : m.1 179 29 = lo) : TKs m 2400 N tk vl true (ew ρ D la lo) := by
  refine ⟨⟨hN, by omega⟩, fun k hk => by rw [hρ]; exact ht k hk, h0, h23, h25, (fun z => by cases z), fun _ m1 f => v_ov ?_ hD ?_ ?_ ?_⟩
  · rw [← hρ]; exact funext fun j => f _ _ (by omega)
  · rw [f _ _ (by omega)]; exact h27
  · rw [f _ _ (by omega)]; exact h28
  · rw [f _ _ (by omega)]; exact h29
theorem ga_sum {m : hm_M} {i j l l1 k : Nat} {C C1 : pc_C} {s : pc_S} {b : Bool} (hT : TKs m 2400 N tk vl true e) (hi : i ≤ 400) (h22 : m.1 179 22 = Int32.ofNat (2400 + i)) (h50 : m.1 179 50 = zb b) (hp : pc_sum true tk vl 10 0 i l C = .ok (j, l1, C1, s)) (hk : k < 2) (live : Bool) (v1 : Int32) : ∃ m2, (∀ (w : Int32) (c79 : Int32 → hm_M → Option hm_M) (e146 : hm_M → Option hm_M), f_X10_goesAlong_J100 v1 (zb live) w c79 e146 (Int32.ofNat k) m = c79 (Int32.ofNat (k + 1)) m2) ∧ (m2.2.2 = m.2.2 ∧ (∀ q, q ≠ k → m2.2.1 203 q = m.2.1 203 q) ∧ ∀ a q, ¬ (a = 179 ∧ (q = 22 ∨ q = 24 ∨ q = 50)) → m2.1 a q = m.1 a q) ∧ m2.1 179 22 = Int32.ofNat (2400 + j) ∧ m2.1 179 50 = zb (b && !(live && (s e).isNone)) ∧ (live = true → ∀ x, s e = some x → m2.2.1 203 k = x.toInt64) := by
  have e0 : es (hm_wI m 179 24 (zb false)) 2400 i false = hm_wI m 179 24 (zb false) := es_self (by rw [wI_ne (by omega)]; exact h22) (wI_at _ _ _ _)
  have hT0 : TKs (hm_wI m 179 24 (zb false)) 2400 N tk vl true e := hT.same fun a j z => wI_ne (by omega)
  obtain ⟨v, β, q1, q2, q3⟩ := ev_sum hT0 10 0 i l C j l1 C1 s 40 (by omega) hi hp live false
  rw [e0] at q1
  have f1 : ∀ a q, ¬ (a = 179 ∧ (q = 22 ∨ q = 24)) → (hm_wI m 179 24 (zb false)).1 a q = m.1 a q := fun a q z => wI_ne (by omega)
  have r1 : (hm_wI m 179 24 (zb false)).2 = m.2 := rfl
  have hA : ∀ (w : Int32) (c79 : Int32 → hm_M → Option hm_M) (e146 : hm_M → Option hm_M), f_X10_goesAlong_J100 v1 (zb live) w c79 e146 (Int32.ofNat k) m = c79 (Int32.ofNat (k + 1)) (hm_wI (hm_wJ (es (hm_wI m 179 24 (zb false)) 2400 j β) 203 k v) 179 50 (zb (b && !β))) := by
    intro w c79 e146
    unfold f_X10_goesAlong_J100 f_X10_goesAlong_J136 f_X10_goesAlong_J137
    rw [show hm_pZ m 179 24 (0 : Int32) = _ from zb_pZ m 179 24 false, Option.bind_some, show F_X10_sumOf (zb live) (hm_wI m 179 24 (zb false)) = _ from q1, b2_some, sdJ_n hk (by decide), Option.bind_some, wJ_1, es_ne (by omega), es_24, f1 _ _ (by omega), h50, show Int32.ofNat k + 1 = Int32.ofNat (k + 1) from n_add k 1]
    cases b <;> cases β <;> rfl
  generalize hm_wI m 179 24 (zb false) = m1 at hA f1 r1
  refine ⟨_, hA, ⟨?_, fun q hq => ?_, fun a q z => ?_⟩, ?_, ?_, fun hl y hy => ?_⟩
  · show m1.2.2 = _
    rw [r1]
  · show (hm_wJ (es m1 2400 j β) 203 k v).2.1 203 q = _
    rw [wJ_ne (by omega)]
    show m1.2.1 203 q = _
    rw [r1]
  · rw [wI_ne (by omega), wJ_1, es_ne (by omega)]
    exact f1 a q (by omega)
  · rw [wI_ne (by omega), wJ_1, es_22]
  · rw [wI_at, q2, Bool.false_or]
  · show (hm_wJ (es m1 2400 j β) 203 k v).2.1 203 k = _
    rw [wJ_at]
    exact q3 hl rfl y hy
/-- whether a clause's test holds -/
def tt (t : Option pc_S) (e : Nat → Int32) : Bool := match t with
  | none => true
  | some t => decide (t e = some 1)
theorem ga_if {m : hm_M} {j l j2 l2 : Nat} {C C2 : pc_C} {t : Option pc_S} (hT : TKs m 2400 N tk vl true e) (hC : C.length ≤ j) (hj : j ≤ 400) (h22 : m.1 179 22 = Int32.ofNat (2400 + j)) (hp : pc_if true tk vl j l C = .ok (j2, l2, C2, t)) (live : Bool) (v1 : Int32) : ∃ m', f_X10_goesAlong_J187 v1 (zb live) m = some m' ∧ (m'.2 = m.2 ∧ ∀ a q, ¬ (a = 179 ∧ (q = 22 ∨ q = 24 ∨ q = 51)) → m'.1 a q = m.1 a q) ∧ m'.1 179 22 = Int32.ofNat (2400 + (j2 + 1)) ∧ (live = true → m'.1 179 51 = zb (tt t e)) := by
  have fin : ∀ (m1 : hm_M) (x β : Bool), (∀ a q, ¬ (a = 179 ∧ (q = 22 ∨ q = 24)) → m1.1 a q = m.1 a q) → m1.2 = m.2 → (live = true → (x && !β) = tt t e) → ∃ m', f_X10_goesAlong_J214 v1 (zb live) (zb x) (es m1 2400 j2 β) = some m' ∧ (m'.2 = m.2 ∧ ∀ a q, ¬ (a = 179 ∧ (q = 22 ∨ q = 24 ∨ q = 51)) → m'.1 a q = m.1 a q) ∧ m'.1 179 22 = Int32.ofNat (2400 + (j2 + 1)) ∧ (live = true → m'.1 179 51 = zb (tt t e)) := by
    intro m1 x β f1 r1 hx
    have last : ∀ y : Bool, (live = true → y = tt t e) → ∃ m', f_X10_goesAlong_J237 v1 (zb live) (zb y) (hm_wI (es m1 2400 j2 β) 179 51 (zb x)) = some m' ∧ (m'.2 = m.2 ∧ ∀ a q, ¬ (a = 179 ∧ (q = 22 ∨ q = 24 ∨ q = 51)) → m'.1 a q = m.1 a q) ∧ m'.1 179 22 = Int32.ofNat (2400 + (j2 + 1)) ∧ (live = true → m'.1 179 51 = zb (tt t e)) := by
      intro y hy
      unfold f_X10_goesAlong_J237
      rw [zb_pZ, Option.bind_some, wI_wI, wI_ne (by omega), es_22, show Int32.ofNat (2400 + j2) + 1 = Int32.ofNat (2400 + j2 + 1) from n_add _ 1, pI_some, Option.bind_some]
      refine ⟨_, rfl, ⟨r1, fun a q z => ?_⟩, by rw [wI_at]; rfl, fun hl => ?_⟩
      · rw [wI_ne (by omega), wI_ne (by omega), es_ne (by omega)]
        exact f1 a q (by omega)
      · rw [wI_ne (by omega), wI_at, hy hl]
    unfold f_X10_goesAlong_J214 f_X10_goesAlong_J236
    rw [zb_pZ, Option.bind_some, wI_at, wI_ne (by omega), es_24]
    cases x with
    | false =>
      rw [if_pos (show zb false = 0 from rfl)]
      exact last false (fun hl => by rw [← hx hl]; rfl)
    | true =>
      rw [if_neg (show ¬ zb true = 0 by decide)]
      cases β with
      | false =>
        rw [if_pos (show zb false = 0 from rfl)]
        exact last true (fun hl => by rw [← hx hl]; rfl)
      | true =>
        rw [if_neg (show ¬ zb true = 0 by decide)]
        exact last false (fun hl => by rw [← hx hl]; rfl)
  have hN := hT.1.1
  unfold f_X10_goesAlong_J187 f_X10_goesAlong_J209
  rw [show (0 : Int32) = zb false from rfl, zb_pZ, Option.bind_some]
  have e0 : hm_wI m 179 24 (zb false) = es (hm_wI m 179 24 (zb false)) 2400 j false := (es_self (by rw [wI_ne (by omega)]; exact h22) (wI_at _ _ _ _)).symm
  have hT0 : TKs (hm_wI m 179 24 (zb false)) 2400 N tk vl true e := hT.same fun a j z => wI_ne (by omega)
  rw [e0, show (4 : Int32) = Int32.ofNat 4 from rfl, ev_pass hT0 (by omega) (by omega)]
  have f1 : ∀ a q, ¬ (a = 179 ∧ (q = 22 ∨ q = 24)) → (hm_wI m 179 24 (zb false)).1 a q = m.1 a q := fun a q z => wI_ne (by omega)
  unfold pc_if at hp
  split at hp
  · rename_i c4
    obtain ⟨j3, l3, C3, s, e1, hp⟩ := pc_b_ok hp
    cases hp
    have hiN := tk_N hT (i := j) (by omega)
    obtain ⟨w, γ, q1, q2, q3⟩ := ev_test hT0 10 _ _ _ _ _ _ _ _ 40 (by omega) (by omega) (by omega) e1 live false
    rw [if_pos c4, b2_some, if_neg (show ¬ (1 : Int32) = zb false by decide), show F_X10_testOf (zb live) _ = _ from q1, b2_some]
    have tk1 := (test_ok (W := 21) hT.2.2.1 (by omega) rfl _ _ _ _ _ _ _ _ _ (by omega) e1).2.2.1
    have hx : live = true → (w && !γ) = tt (some s) e := by
      intro hl
      subst hl
      simp only [Bool.false_or, Bool.true_and] at q2
      show _ = decide (s e = some 1)
      cases hs : s e with
      | none =>
        rw [hs] at q2
        rw [q2]
        simp
      | some x =>
        rw [hs] at q2
        have := q3 rfl rfl x hs
        subst this
        rw [q2]
        cases w <;> simp [zb]
    cases w with
    | false =>
      rw [if_pos (show zb false = zb false from rfl)]
      exact fin _ false γ f1 rfl hx
    | true =>
      rw [if_neg (show ¬ zb true = zb false by decide)]
      exact fin _ true γ f1 rfl hx
  · rename_i c4
    cases hp
    rw [if_neg c4, b2_some, if_pos (show (0 : Int32) = zb false from rfl)]
    exact fin _ true false f1 rfl (fun _ => rfl)
end
