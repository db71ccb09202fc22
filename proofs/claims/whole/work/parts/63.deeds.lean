section
/-! What is done: rows beside villages. -/
def DW (ρ : Nat → Int32) : Prop := bd (ρ 54) 9 ∧ (∀ i, i < 8 → bd (ρ i) 25 ∧ bd (ρ (8 + i)) 5 ∧ bd (ρ (25 + i)) 4 ∧ bd (ρ (16 + i)) 256) ∧ (bd (ρ 24) 1000 ∧ bd (ρ 52) 10) ∧ rw_hold ρ
theorem RW.d {ρ : Nat → Int32} (h : RW ρ) : DW ρ := ⟨h.1, h.2.1, ⟨h.2.2.1.1, h.2.2.1.2.2.1⟩, h.2.2.2.2.2.1⟩
theorem DW.b {ρ : Nat → Int32} (h : DW ρ) : bR ρ := ⟨fun i hi => ⟨(h.2.1 i hi).1, (h.2.1 i hi).2.1, (h.2.1 i hi).2.2.1⟩, h.2.2.1.1, h.2.2.1.2⟩
/-- two take hands, or let them go -/
def rwx (ρ : Nat → Int32) (a b : Nat) (k : Nat) : Int32 := if k = 16 + a then Int32.ofNat (hx ρ a ^^^ 2 ^ b) else if k = 16 + b then Int32.ofNat (hx ρ b ^^^ 2 ^ a) else ρ k
theorem rwx_ne {ρ : Nat → Int32} {a b k : Nat} (h : k < 16 ∨ 24 ≤ k) (ha : a < 8) (hb : b < 8) : rwx ρ a b k = ρ k := by
  unfold rwx
  rw [if_neg (by omega), if_neg (by omega)]
theorem hx_x {ρ : Nat → Int32} (hD : DW ρ) {a b c : Nat} (ha : a < 8) (hb : b < 8) (hab : a ≠ b) : hx (rwx ρ a b) c = if c = a then hx ρ a ^^^ 2 ^ b else if c = b then hx ρ b ^^^ 2 ^ a else hx ρ c := by
  have h1 : hx ρ a ^^^ 2 ^ b < 2 ^ 8 := Nat.xor_lt_two_pow (n := 8) (hD.2.1 a ha).2.2.2.2 (p2_lt hb)
  have h2 : hx ρ b ^^^ 2 ^ a < 2 ^ 8 := Nat.xor_lt_two_pow (n := 8) (hD.2.1 b hb).2.2.2.2 (p2_lt ha)
  show nat (rwx ρ a b (16 + c)) = _
  unfold rwx
  by_cases e1 : c = a
  · rw [if_pos (by omega), if_pos e1, nat_n (by omega)]
  · rw [if_neg (by omega), if_neg e1]
    by_cases e2 : c = b
    · rw [if_pos (by omega), if_pos e2, nat_n (by omega)]
    · rw [if_neg (by omega), if_neg e2]
      rfl
theorem x_bit {h b i : Nat} : (h ^^^ 2 ^ b).testBit i = (h.testBit i != decide (i = b)) := by
  rw [Nat.testBit_xor]
  by_cases e : i = b
  · subst e
    rw [Nat.testBit_two_pow_self, decide_eq_true rfl]
  · rw [Nat.testBit_two_pow_of_ne (by omega), decide_eq_false e]
theorem rwx_D {ρ : Nat → Int32} (hD : DW ρ) {a b : Nat} (hab : a ≠ b) (ha : a < nat (ρ 54)) (hb : b < nat (ρ 54)) : DW (rwx ρ a b) := by
  have h9 := hD.1.2
  have ha8 : a < 8 := by omega
  have hb8 : b < 8 := by omega
  have hxb : ∀ p q, p < 8 → (hx (rwx ρ a b) p).testBit q = if p = a then ((hx ρ a).testBit q != decide (q = b)) else if p = b then ((hx ρ b).testBit q != decide (q = a)) else (hx ρ p).testBit q := by
    intro p q hp
    rw [hx_x hD ha8 hb8 hab]
    by_cases e1 : p = a
    · rw [if_pos e1, if_pos e1, x_bit]
    · rw [if_neg e1, if_neg e1]
      by_cases e2 : p = b
      · rw [if_pos e2, if_pos e2, x_bit]
      · rw [if_neg e2, if_neg e2]
  obtain ⟨s1, s2⟩ := hD.2.2.2
  have s1' : ∀ p q, p < 8 → q < 8 → (hx ρ p).testBit q = (hx ρ q).testBit p := s1
  have s2' : ∀ p q, p < 8 → (hx ρ p).testBit q = true → p < nat (ρ 54) ∧ q < nat (ρ 54) ∧ p ≠ q := s2
  refine ⟨?_, fun i hi => ?_, ?_, ?_, ?_⟩
  · rw [rwx_ne (by omega) ha8 hb8]; exact hD.1
  · rw [rwx_ne (by omega) ha8 hb8, rwx_ne (by omega) ha8 hb8, rwx_ne (by omega) ha8 hb8]
    obtain ⟨q1, q2, q3, q4⟩ := hD.2.1 i hi
    refine ⟨q1, q2, q3, ?_⟩
    unfold rwx
    split
    · exact bd_n (Nat.xor_lt_two_pow (n := 8) (hD.2.1 a ha8).2.2.2.2 (p2_lt hb8)) (by decide)
    · split
      · exact bd_n (Nat.xor_lt_two_pow (n := 8) (hD.2.1 b hb8).2.2.2.2 (p2_lt ha8)) (by decide)
      · exact q4
  · rw [rwx_ne (by omega) ha8 hb8, rwx_ne (by omega) ha8 hb8]; exact hD.2.2.1
  · intro p q hp hq
    show (hx (rwx ρ a b) p).testBit q = (hx (rwx ρ a b) q).testBit p
    rw [hxb p q hp, hxb q p hq]
    by_cases e1 : p = a
    · subst e1
      rw [if_pos rfl]
      by_cases e2 : q = p
      · subst e2; rw [if_pos rfl]
      · rw [if_neg e2]
        by_cases e3 : q = b
        · subst e3
          rw [if_pos rfl, s1' p q hp hq, decide_eq_true rfl, decide_eq_true rfl]
        · rw [if_neg e3, s1' p q hp hq, decide_eq_false e3]
          simp
    · rw [if_neg e1]
      by_cases e2 : p = b
      · subst e2
        rw [if_pos rfl]
        by_cases e3 : q = a
        · subst e3
          rw [if_pos rfl, s1' p q hp hq, decide_eq_true rfl, decide_eq_true rfl]
        · rw [if_neg e3, decide_eq_false e3]
          by_cases e4 : q = p
          · subst e4; rw [if_pos rfl, decide_eq_false e3]
          · rw [if_neg e4, s1' p q hp hq]; simp
      · rw [if_neg e2]
        by_cases e3 : q = a
        · subst e3
          rw [if_pos rfl, s1' p q hp hq, decide_eq_false e2]; simp
        · rw [if_neg e3]
          by_cases e4 : q = b
          · subst e4
            rw [if_pos rfl, s1' p q hp hq, decide_eq_false e1]; simp
          · rw [if_neg e4]; exact s1' p q hp hq
  · intro p q hp hz
    rw [rwx_ne (by omega) ha8 hb8]
    have hz : (hx (rwx ρ a b) p).testBit q = true := hz
    rw [hxb p q hp] at hz
    by_cases e1 : p = a
    · subst e1
      rw [if_pos rfl] at hz
      by_cases e3 : q = b
      · subst e3; exact ⟨ha, hb, hab⟩
      · rw [decide_eq_false e3] at hz
        exact s2' p q hp (by simpa using hz)
    · rw [if_neg e1] at hz
      by_cases e2 : p = b
      · subst e2
        rw [if_pos rfl] at hz
        by_cases e3 : q = a
        · subst e3; exact ⟨hb, ha, fun z => hab z.symm⟩
        · rw [decide_eq_false e3] at hz
          exact s2' p q hp (by simpa using hz)
      · rw [if_neg e2] at hz
        exact s2' p q hp hz
theorem or_x : ∀ h, h < 256 → ∀ b, b < 8 → h.testBit b = false → h ||| 2 ^ b = h ^^^ 2 ^ b := by decide +kernel
theorem an_x : ∀ h, h < 256 → ∀ b, b < 8 → h.testBit b = true → h &&& (2 ^ b ^^^ 255) = h ^^^ 2 ^ b := by decide +kernel
/-- a village's part that is moved -/
def VD (μ : hm_M) (v : Nat) (ρ : Nat → Int32) : Prop := μ.1 v 0 = ρ 54 ∧ (∀ i, i < 8 → μ.1 (v + 4) i = ρ (16 + i)) ∧ VJ μ v ρ
theorem VB.d {μ : hm_M} {v : Nat} {ρ : Nat → Int32} (h : VB μ v ρ) : VD μ v ρ := ⟨h.1, fun i hi => (h.2.1 i hi).2.2.2, h.j⟩
def fd (v : Nat) (μ μ1 : hm_M) : Prop := μ1.2 = μ.2 ∧ ∀ a j, ¬ (a = 107 ∧ j = 2) → a ≠ 108 → a ≠ 109 → a ≠ 111 → a ≠ v + 1 → a ≠ v + 2 → a ≠ v + 4 → ¬ (a = v + 5 ∧ j = 0) → μ1.1 a j = μ.1 a j
theorem fd_refl (v : Nat) (μ : hm_M) : fd v μ μ := ⟨rfl, fun _ _ _ _ _ _ _ _ _ _ => rfl⟩
theorem fd_trans {v : Nat} {μ μ1 μ2 : hm_M} (h : fd v μ μ1) (g : fd v μ1 μ2) : fd v μ μ2 := ⟨g.1.trans h.1, fun a j h1 h2 h3 h4 h5 h6 h7 h8 => (g.2 a j h1 h2 h3 h4 h5 h6 h7 h8).trans (h.2 a j h1 h2 h3 h4 h5 h6 h7 h8)⟩
theorem fj_fd {v : Nat} {μ μ1 : hm_M} (f : fj μ μ1) : fd v μ μ1 := ⟨f.1, fun a j h1 h2 h3 _ _ _ _ _ => f.2 a j h2 h3 h1⟩
theorem fd_w {v : Nat} {μ μ1 : hm_M} (f : fd v μ μ1) {a j : Nat} (h : a = 111 ∨ a = v + 1 ∨ a = v + 2 ∨ a = v + 4 ∨ (a = v + 5 ∧ j = 0)) (x : Int32) : fd v μ (hm_wI μ1 a j x) := ⟨f.1, fun b k h1 h2 h3 h4 h5 h6 h7 h8 => by
  rw [wI_ne (by omega)]
  exact f.2 b k h1 h2 h3 h4 h5 h6 h7 h8⟩
theorem VD.fj {μ μ1 : hm_M} {v : Nat} {ρ : Nat → Int32} (h : VD μ v ρ) (hv : vO v) (f : fj μ μ1) : VD μ1 v ρ := by
  have hv2 := hv
  unfold vO at hv2
  exact ⟨by rw [f.2 _ _ (by omega) (by omega) (by omega)]; exact h.1, fun i hi => by rw [f.2 _ _ (by omega) (by omega) (by omega)]; exact h.2.1 i hi, h.2.2.fj hv f⟩
theorem lawIF_fd {μ μ1 : hm_M} {v : Nat} (hv : vO v) (f : fd v μ μ1) : f_X8_lawInForce v μ1 = f_X8_lawInForce v μ := by
  unfold vO at hv
  unfold f_X8_lawInForce f_X8_hasLaw hm_ldR
  rw [f.2 v 8 (by omega) (by omega) (by omega) (by omega) (by omega) (by omega) (by omega) (by omega), f.2 v 7 (by omega) (by omega) (by omega) (by omega) (by omega) (by omega) (by omega) (by omega), show μ1.2.2.1 = μ.2.2.1 from congrArg (fun z => z.2.1) f.1]
theorem LJ.fd {μ μ1 : hm_M} {v : Nat} {law : Option Nat} {L : List pc_K} (hv : v + 9 < 205) (h : LJ μ law L) (f : fd v μ μ1) : LJ μ1 law L := by
  rcases h with h | ⟨p, C, h1, h2, h3, h4⟩
  · exact Or.inl h
  · refine Or.inr ⟨p, C, h1, h2, h3.same (fun a q1 q2 j => f.2 a j (by omega) (by omega) (by omega) (by omega) (by omega) (by omega) (by omega) (by omega)) (congrArg (fun z => z.2.2.2.2) f.1), ?_⟩
    have epg : pg9 μ1 p = pg9 μ p := funext fun j => by
      unfold pg9
      rw [f.2 _ _ (by omega) (by omega) (by omega) (by omega) (by omega) (by omega) (by omega) (by omega), f.2 _ _ (by omega) (by omega) (by omega) (by omega) (by omega) (by omega) (by omega) (by omega)]
    rw [epg]
    exact h4
theorem fd_109 {μ μ1 : hm_M} {v : Nat} (f : fd v μ μ1) (hW : hm_ln μ 109 = 8) : hm_ln μ1 109 = 8 := (congrArg (fun z => z.2.2.2.2 109) f.1).trans hW
section
variable {μ : hm_M} {ρ : Nat → Int32} {v a b : Nat}
theorem VD_x (h : VD μ v ρ) (hD : DW ρ) (hv : vO v) (ha : a < 8) (hb : b < 8) (hab : a ≠ b) : VD (hm_wI (hm_wI μ (v + 4) a (Int32.ofNat (hx ρ a ^^^ 2 ^ b))) (v + 4) b (Int32.ofNat (hx ρ b ^^^ 2 ^ a))) v (rwx ρ a b) := by
  refine ⟨?_, fun i hi => ?_, fun i hi => ?_, ?_, ?_⟩
  · rw [wI_ne (by omega), wI_ne (by omega), rwx_ne (by omega) ha hb]; exact h.1
  · unfold rwx
    by_cases e1 : i = b
    · subst e1
      rw [wI_at, if_neg (by omega), if_pos rfl]
    · rw [wI_ne (by omega)]
      by_cases e2 : i = a
      · subst e2
        rw [wI_at, if_pos rfl]
      · rw [wI_ne (by omega), if_neg (by omega), if_neg (by omega)]; exact h.2.1 i hi
  · rw [wI_ne (by omega), wI_ne (by omega), wI_ne (by omega), wI_ne (by omega), wI_ne (by omega), wI_ne (by omega), rwx_ne (by omega) ha hb, rwx_ne (by omega) ha hb, rwx_ne (by omega) ha hb]
    exact h.2.2.1 i hi
  · rw [wI_ne (by omega), wI_ne (by omega), rwx_ne (by omega) ha hb]; exact h.2.2.2.1
  · rw [wI_ne (by omega), wI_ne (by omega), rwx_ne (by omega) ha hb]; exact h.2.2.2.2
theorem v_join (h : VD μ v ρ) (hD : DW ρ) (hv : vO v) (ha : a < 8) (hb : b < 8) (hab : a ≠ b) (hz : (hx ρ a).testBit b = false) : ∃ μ1, f_X8_join v (Int32.ofNat a) (Int32.ofNat b) μ = some μ1 ∧ VD μ1 v (rwx ρ a b) ∧ fd v μ μ1 := by
  have e1 : μ.1 (v + 4) a = Int32.ofNat (hx ρ a) := by rw [h.2.1 a ha]; exact (hD.2.1 a ha).2.2.2.1
  have e2 : μ.1 (v + 4) b = Int32.ofNat (hx ρ b) := by rw [h.2.1 b hb]; exact (hD.2.1 b hb).2.2.2.1
  have l1 : hx ρ a < 256 := (hD.2.1 a ha).2.2.2.2
  have l2 : hx ρ b < 256 := (hD.2.1 b hb).2.2.2.2
  have hz2 : (hx ρ b).testBit a = false := by rw [← show (hx ρ a).testBit b = (hx ρ b).testBit a from hD.2.2.2.1 a b ha hb]; exact hz
  refine ⟨_, ?_, VD_x h hD hv ha hb hab, fd_w (fd_w (fd_refl v μ) (by omega) _) (by omega) _⟩
  unfold f_X8_join
  rw [ld_n ha (by decide), Option.bind_some, e1, n_shl b (by omega), n_or l1 (p2_lt hb), or_x _ l1 b hb hz, sd_n ha (by decide), Option.bind_some, ld_n hb (by decide), Option.bind_some, wI_ne (by omega), e2, n_shl a (by omega), n_or l2 (p2_lt ha), or_x _ l2 a ha hz2, sd_n hb (by decide)]
  rfl
theorem v_part (h : VD μ v ρ) (hD : DW ρ) (hv : vO v) (ha : a < 8) (hb : b < 8) (hab : a ≠ b) (hz : (hx ρ a).testBit b = true) : ∃ μ1, f_X8_part v (Int32.ofNat a) (Int32.ofNat b) μ = some μ1 ∧ VD μ1 v (rwx ρ a b) ∧ fd v μ μ1 := by
  have e1 : μ.1 (v + 4) a = Int32.ofNat (hx ρ a) := by rw [h.2.1 a ha]; exact (hD.2.1 a ha).2.2.2.1
  have e2 : μ.1 (v + 4) b = Int32.ofNat (hx ρ b) := by rw [h.2.1 b hb]; exact (hD.2.1 b hb).2.2.2.1
  have l1 : hx ρ a < 256 := (hD.2.1 a ha).2.2.2.2
  have l2 : hx ρ b < 256 := (hD.2.1 b hb).2.2.2.2
  have hz2 : (hx ρ b).testBit a = true := by rw [← show (hx ρ a).testBit b = (hx ρ b).testBit a from hD.2.2.2.1 a b ha hb]; exact hz
  refine ⟨_, ?_, VD_x h hD hv ha hb hab, fd_w (fd_w (fd_refl v μ) (by omega) _) (by omega) _⟩
  unfold f_X8_part
  rw [ld_n ha (by decide), Option.bind_some, e1, n_shl b (by omega), n_an l1 (p2_lt hb), an_x _ l1 b hb hz, sd_n ha (by decide), Option.bind_some, ld_n hb (by decide), Option.bind_some, wI_ne (by omega), e2, n_shl a (by omega), n_an l2 (p2_lt ha), an_x _ l2 a ha hz2, sd_n hb (by decide)]
  rfl
theorem v_hh (h : VD μ v ρ) (hD : DW ρ) (ha : a < 8) (hb : b < 8) : f_X8_holdHands v (Int32.ofNat a) (Int32.ofNat b) μ = some (zb ((hx ρ a).testBit b)) := by
  have e1 : μ.1 (v + 4) a = Int32.ofNat (hx ρ a) := by rw [h.2.1 a ha]; exact (hD.2.1 a ha).2.2.2.1
  have l1 : hx ρ a < 256 := (hD.2.1 a ha).2.2.2.2
  unfold f_X8_holdHands
  rw [ld_n ha (by decide), Option.bind_some, e1, n_bit _ l1 _ hb]
  cases (hx ρ a).testBit b <;> rfl
/-- the reference -/
def fr (μ m : hm_M) : Prop := m.2 = μ.2 ∧ ∀ a j, a ≠ 181 → a ≠ 191 → a ≠ 192 → ¬ (a = 179 ∧ 22 ≤ j ∧ j ≤ 25) → m.1 a j = μ.1 a j
theorem fr_refl (μ : hm_M) : fr μ μ := ⟨rfl, fun _ _ _ _ _ _ => rfl⟩
theorem fr_trans {μ μ1 μ2 : hm_M} (h : fr μ μ1) (g : fr μ1 μ2) : fr μ μ2 := ⟨g.1.trans h.1, fun a j h1 h2 h3 h4 => (g.2 a j h1 h2 h3 h4).trans (h.2 a j h1 h2 h3 h4)⟩
theorem fq_fr {μ μ1 : hm_M} (f : fq μ μ1) : fr μ μ1 := ⟨f.1, fun a j _ h2 _ h4 => f.2 a j h2 h4⟩
theorem fr_w {μ μ1 : hm_M} (f : fr μ μ1) {a : Nat} (h : a = 181 ∨ a = 192) (j : Nat) (x : Int32) : fr μ (hm_wI μ1 a j x) := ⟨f.1, fun b k h1 h2 h3 h4 => by
  rw [wI_ne (by omega)]
  exact f.2 b k h1 h2 h3 h4⟩
theorem v_chg {m : hm_M} (hD : DW (m.1 181)) (ha : a < 8) (hb : b < 8) (hab : a ≠ b) : ∃ m1, f_X10_changesHold (Int32.ofNat a) (Int32.ofNat b) m = some m1 ∧ m1.1 181 = rwx (m.1 181) a b ∧ fr m m1 := by
  have e1 : m.1 181 (16 + a) = Int32.ofNat (hx (m.1 181) a) := (hD.2.1 a ha).2.2.2.1
  have e2 : m.1 181 (16 + b) = Int32.ofNat (hx (m.1 181) b) := (hD.2.1 b hb).2.2.2.1
  have l1 : hx (m.1 181) a < 256 := (hD.2.1 a ha).2.2.2.2
  have l2 : hx (m.1 181) b < 256 := (hD.2.1 b hb).2.2.2.2
  refine ⟨hm_wI (hm_wI m 181 (16 + a) (Int32.ofNat (hx (m.1 181) a ^^^ 2 ^ b))) 181 (16 + b) (Int32.ofNat (hx (m.1 181) b ^^^ 2 ^ a)), ?_, funext fun k => ?_, fr_w (fr_w (fr_refl m) (by omega) _ _) (by omega) _ _⟩
  · unfold f_X10_changesHold
    rw [show (16 : Int32) = Int32.ofNat 16 from rfl, n_add, n_add, ld_n (by omega) (by decide), Option.bind_some, e1, n_shl b (by omega), n_xor l1 (p2_lt hb), sd_n (by omega) (by decide), Option.bind_some, ld_n (by omega) (by decide), Option.bind_some, wI_ne (by omega), e2, n_shl a (by omega), n_xor l2 (p2_lt ha), sd_n (by omega) (by decide)]
    rfl
  · unfold rwx
    by_cases q1 : k = 16 + b
    · subst q1
      rw [wI_at, if_neg (by omega), if_pos rfl]
    · rw [wI_ne (by omega)]
      by_cases q2 : k = 16 + a
      · subst q2
        rw [wI_at, if_pos rfl]
      · rw [wI_ne (by omega), if_neg q2, if_neg q1]
end
/-- holds of two who can no more -/
def drI (L : List pc_K) (a lo : Nat) : Nat → (Nat → Int32) × Nat → (Nat → Int32) × Nat
  | 0, q => q
  | k + 1, q => if (hx (drI L a lo k q).1 a).testBit (lo + k) = true ∧ s_can L (drI L a lo k q).1 a (lo + k) = false then (rwx (drI L a lo k q).1 a (lo + k), (drI L a lo k q).2 + 1) else drI L a lo k q
def drO (L : List pc_K) (n : Nat) : Nat → (Nat → Int32) × Nat → (Nat → Int32) × Nat
  | 0, q => q
  | a + 1, q => drI L a (a + 1) (n - (a + 1)) (drO L n a q)
theorem drI_D {L : List pc_K} {a lo n : Nat} {q : (Nat → Int32) × Nat} (hD : DW q.1) (hn : nat (q.1 54) = n) (ha : a < lo) : ∀ k, lo + k ≤ n → DW (drI L a lo k q).1 ∧ (∀ j, j < 16 ∨ 24 ≤ j → (drI L a lo k q).1 j = q.1 j)
  | 0, _ => ⟨hD, fun _ _ => rfl⟩
  | k + 1, h => by
    have ⟨h1, h2⟩ := drI_D (L := L) hD hn ha k (by omega)
    have hn9 := hD.1.2
    unfold drI
    split
    · refine ⟨rwx_D h1 (by omega) (by rw [h2 54 (by omega), hn]; omega) (by rw [h2 54 (by omega), hn]; omega), fun j hj => ?_⟩
      show rwx _ a (lo + k) j = _
      rw [rwx_ne hj (by omega) (by omega)]
      exact h2 j hj
    · exact ⟨h1, h2⟩
theorem drO_D {L : List pc_K} {n : Nat} {q : (Nat → Int32) × Nat} (hD : DW q.1) (hn : nat (q.1 54) = n) : ∀ k, k ≤ n → DW (drO L n k q).1 ∧ (∀ j, j < 16 ∨ 24 ≤ j → (drO L n k q).1 j = q.1 j)
  | 0, _ => ⟨hD, fun _ _ => rfl⟩
  | k + 1, h => by
    have ⟨h1, h2⟩ := drO_D (L := L) hD hn k (by omega)
    have ⟨h3, h4⟩ := drI_D (L := L) (a := k) (lo := k + 1) (n := n) h1 (by rw [h2 54 (by omega)]; exact hn) (by omega) (n - (k + 1)) (by omega)
    exact ⟨h3, fun j hj => (h4 j hj).trans (h2 j hj)⟩
end
