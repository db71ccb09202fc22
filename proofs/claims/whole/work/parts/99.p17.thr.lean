section
/-! The reference goes through all rings. -/
def rowg (r : List Nat) (i : Nat) : Nat := (0 :: r).getD i 0
def anyb (f : Nat → Bool) : Nat → Bool
  | 0 => false
  | m + 1 => anyb f m || f m
def allb (f : Nat → Bool) : Nat → Bool
  | 0 => true
  | m + 1 => allb f m && f m
theorem allb_f {f : Nat → Bool} {k : Nat} (h : allb f k = false) : ∀ {m : Nat}, k ≤ m → allb f m = false
  | 0, hk => by rw [show k = 0 by omega] at h; exact h
  | m + 1, hk => by
    by_cases z : k = m + 1
    · rw [← z]; exact h
    · show (allb f m && f m) = false
      rw [allb_f h (m := m) (by omega)]
      rfl
def cyA (n : Nat) (r : List Nat) (a b i : Nat) : Bool := (decide (rowg r i = a) && decide (rowg r ((i + 1) % n) = b)) || (decide (rowg r i = b) && decide (rowg r ((i + 1) % n) = a))
def adjp (n : Nat) (r : List Nat) (a b : Nat) : Bool := anyb (cyA n r a b) n
def soP (n : Nat) (ρ : Nat → Int32) (r : List Nat) : Bool := allb (fun k => adjp n r (nat (ρ (33 + 3 * k))) (nat (ρ (34 + 3 * k))) == decide (ρ (35 + 3 * k) = 1)) (nat (ρ 55))
def incN (n : Nat) (r : List Nat) (a b : Nat) : Nat := smf (fun i => if min (rowg r i) (rowg r ((i + 1) % n)) = a ∧ max (rowg r i) (rowg r ((i + 1) % n)) = b then 1 else 0) n
abbrev gS : Type := Nat × Nat × Option (List Nat) × (Nat → Nat → Nat)
def gup (n : Nat) (so : Bool) (r : List Nat) (st : gS) : gS := if so = true then (st.1 + 1, st.2.1 + 1, (if st.2.1 = 0 then some r else st.2.2.1), fun a b => st.2.2.2 a b + incN n r a b) else (st.1 + 1, st.2.1, st.2.2.1, st.2.2.2)
def GR (m : hm_M) (n : Nat) (st : gS) : Prop := m.1 179 41 = Int32.ofNat st.1 ∧ m.1 179 42 = Int32.ofNat st.2.1 ∧ (∀ g, st.2.2.1 = some g → ∀ i, i < n → m.1 198 i = Int32.ofNat (rowg g i)) ∧ ∀ a b, a < 8 → b < 8 → m.1 199 (8 * a + b) = Int32.ofNat (st.2.2.2 a b)
def fCr (m m1 : hm_M) : Prop := m1.2 = m.2 ∧ ∀ a j, ¬ (a = 179 ∧ (j = 41 ∨ j = 42)) → a ≠ 198 → a ≠ 199 → m1.1 a j = m.1 a j
theorem fCr_trans {m m1 m2 : hm_M} (h : fCr m m1) (g : fCr m1 m2) : fCr m m2 := ⟨g.1.trans h.1, fun a j z1 z2 z3 => (g.2 a j z1 z2 z3).trans (h.2 a j z1 z2 z3)⟩
theorem fCr_refl (m : hm_M) : fCr m m := ⟨rfl, fun _ _ _ _ _ => rfl⟩
variable {m : hm_M} {n : Nat} {r : List Nat} {ρ : Nat → Int32}
/-- the row that is tried -/
def RWm (m : hm_M) (n : Nat) (r : List Nat) : Prop := ∀ i, i < n → m.1 197 i = Int32.ofNat (rowg r i) ∧ rowg r i < n
theorem nx_if {A : Type} (k : Int32 → A) {P1 P2 P3 P4 : Prop} [Decidable P1] [Decidable P2] [Decidable P3] [Decidable P4] : (if P1 then (if P2 then k 1 else (if P3 then (if P4 then k 1 else k 0) else k 0)) else (if P3 then (if P4 then k 1 else k 0) else k 0)) = k (zb ((decide P1 && decide P2) || (decide P3 && decide P4))) := by
  by_cases h1 : P1 <;> by_cases h2 : P2 <;> by_cases h3 : P3 <;> by_cases h4 : P4 <;> simp [h1, h2, h3, h4, zb]
theorem v_areN {a b : Nat} (hn : n ≤ 8) (hn1 : 1 ≤ n) (h54 : m.1 181 54 = Int32.ofNat n) (hr : RWm m n r) (ha : a < 1000) (hb : b < 1000) : f_X10_areNext (Int32.ofNat a) (Int32.ofNat b) m = some (zb (adjp n r a b)) := by
  unfold f_X10_areNext adjp
  refine lo3 (L := f_X10_areNext_L5 (Int32.ofNat a) (Int32.ofNat b) (fun z7_3 μz7 => hm_rz z7_3)) (fun k y1 y2 m1 => y1 = zb (anyb (cyA n r a b) k) ∧ y2 = Int32.ofNat k ∧ m1 = m) (fun o => o = _) n (fun k y1 y2 m1 hk hI => Or.inl ?_) (fun y1 y2 m1 hI F => ?_) (fu_lt (by omega)) ⟨rfl, rfl, rfl⟩
  · obtain ⟨rfl, rfl, rfl⟩ := hI
    have hm : (k + 1) % n < n := Nat.mod_lt _ hn1
    obtain ⟨r1, r2⟩ := hr k hk
    obtain ⟨r3, r4⟩ := hr _ hm
    refine ⟨_, Int32.ofNat k + 1, m1, ⟨rfl, n_add k 1, rfl⟩, fun F => ?_⟩
    rw [f_X10_areNext_L5, v_mny, h54, Option.bind_some, if_neg (by rw [n_le (by omega) (by omega)]; omega), ld_n (by omega) (by decide), Option.bind_some, r1, Option.bind_some, show hm_rm2 (Int32.ofNat k + 1) (Int32.ofNat n) = hm_rm2 (Int32.ofNat (k + 1)) (Int32.ofNat n) by rw [show Int32.ofNat k + 1 = Int32.ofNat (k + 1) from n_add k 1], rm2_n (by omega) (by omega) hn1, Option.bind_some, ld_n (by omega) (by decide), Option.bind_some, r3]
    unfold f_X10_areNext_J67 f_X10_areNext_J55 f_X10_areNext_J71 f_X10_areNext_J72
    have es : anyb (cyA n r a b) (k + 1) = (anyb (cyA n r a b) k || ((decide (rowg r k = a) && decide (rowg r ((k + 1) % n) = b)) || (decide (rowg r k = b) && decide (rowg r ((k + 1) % n) = a)))) := rfl
    rw [es]
    have d1 : ∀ x y, x < n → y < 1000 → decide (Int32.ofNat x = Int32.ofNat y) = decide (x = y) := fun x y hx hy => decide_eq_decide.mpr (by rw [n_eq (by omega) (by omega)])
    rw [← d1 _ a r2 ha, ← d1 _ b r4 hb, ← d1 _ b r2 hb, ← d1 _ a r4 ha]
    cases anyb (cyA n r a b) k with
    | true =>
      rw [if_neg (show ¬ zb true = 0 by decide)]
      rfl
    | false =>
      rw [if_pos (show zb false = 0 from rfl), Bool.false_or]
      exact nx_if fun q => f_X10_areNext_L5 (Int32.ofNat a) (Int32.ofNat b) (fun z7_3 μz7 => hm_rz z7_3) F q (Int32.ofNat k + 1) m1
  · obtain ⟨rfl, rfl, rfl⟩ := hI
    rw [f_X10_areNext_L5, v_mny, h54, Option.bind_some, if_pos (by rw [n_le (by omega) (by omega)]; omega), zb_rz]
end
