section
/-! What is lost, who is barred, how one tires: told once for both sides. -/
def clN (B : Nat) (v : Int32) : Nat := if v.toInt < 0 then 0 else if v.toInt ≤ B then v.toInt.toNat else B
theorem clN_le (B : Nat) (v : Int32) : clN B v ≤ B := by
  unfold clN
  split
  · omega
  · split <;> omega
def s_lost (L : List pc_K) (ρ : Nat → Int32) (a b : Nat) : Nat := match pc_told 0 (en2 ρ (min a b) (max a b)) L with
  | some v => clN 9 v
  | none => far9 (nat (ρ a)) (nat (ρ b))
def s_bar (L : List pc_K) (ρ : Nat → Int32) (a b : Nat) : Bool := (pc_told 2 (en2 ρ (min a b) (max a b)) L).isSome
def s_tire (L : List pc_K) (ρ : Nat → Int32) (a : Nat) : Nat := match pc_told 1 (en1 ρ a) L with
  | some v => clN 4 v
  | none => 0
def s_near (ρ : Nat → Int32) (a b : Nat) : Bool := decide (far9 (nat (ρ a)) (nat (ρ b)) ≤ nat (ρ (8 + a)) + nat (ρ (8 + b)))
def s_can (L : List pc_K) (ρ : Nat → Int32) (a b : Nat) : Bool := s_near ρ a b && !s_bar L ρ a b
theorem s_lost_comm (L : List pc_K) (ρ : Nat → Int32) (a b : Nat) : s_lost L ρ a b = s_lost L ρ b a := by
  unfold s_lost
  rw [Nat.min_comm, Nat.max_comm, far9_comm]
theorem s_bar_comm (L : List pc_K) (ρ : Nat → Int32) (a b : Nat) : s_bar L ρ a b = s_bar L ρ b a := by
  unfold s_bar
  rw [Nat.min_comm, Nat.max_comm]
theorem s_near_comm (ρ : Nat → Int32) (a b : Nat) : s_near ρ a b = s_near ρ b a := by
  unfold s_near
  rw [far9_comm, Nat.add_comm]
theorem s_can_comm (L : List pc_K) (ρ : Nat → Int32) (a b : Nat) : s_can L ρ a b = s_can L ρ b a := by
  unfold s_can
  rw [s_bar_comm, s_near_comm]
theorem s_lost_le {L : List pc_K} {ρ : Nat → Int32} {a b : Nat} (hR : bR ρ) (ha : a < 8) (hb : b < 8) : s_lost L ρ a b ≤ 9 := by
  unfold s_lost
  split
  · exact clN_le 9 _
  · have := far9_le (hR.1 a ha).1.2 (hR.1 b hb).1.2
    omega
theorem s_tire_le (L : List pc_K) (ρ : Nat → Int32) (a : Nat) : s_tire L ρ a ≤ 4 := by
  unfold s_tire
  split
  · exact clN_le 4 _
  · omega
theorem i64_of32 (v : Int32) : v.toInt64.toInt = v.toInt := Int32.toInt_toInt64 v
theorem cc_n {hd B : Nat} {v : Int32} (hh : hd ≠ 2) (hB : B < 1000) : (cc hd (Int32.ofNat B) v).toInt32 = Int32.ofNat (clN B v) := by
  unfold cc clN
  rw [if_neg hh]
  simp only [lg_cmp_ge, lg_cmp_le, Int64.le_iff_toInt_le, i64_of32, n_toInt (show B < 2147483648 by omega), show (0 : Int64).toInt = 0 from rfl]
  by_cases h1 : v.toInt < 0
  · rw [if_neg (by omega), if_pos h1]
    rfl
  · rw [if_pos (by omega), if_neg h1]
    by_cases h2 : v.toInt ≤ B
    · rw [if_pos h2, if_pos h2, Int32.toInt32_toInt64]
      apply Int32.toInt_inj.mp
      rw [n_toInt (by omega)]
      omega
    · rw [if_neg h2, if_neg h2, Int32.toInt32_toInt64]
theorem cc_2 (v : Int32) : (cc 2 1 v).toInt32 = 1 := rfl
theorem cl9 {B : Nat} {v : Int32} (hB : B < 1000) : (if (0 : Int32) < (if v < Int32.ofNat B then v else Int32.ofNat B) then (if v < Int32.ofNat B then v else Int32.ofNat B) else 0) = Int32.ofNat (clN B v) := by
  unfold clN
  simp only [i_lt, n_toInt (show B < 2147483648 by omega), show (0 : Int32).toInt = 0 from rfl]
  by_cases h1 : v.toInt < B
  · simp only [if_pos h1]
    by_cases h2 : 0 < v.toInt
    · rw [if_pos h2, if_neg (by omega), if_pos (by omega)]
      apply Int32.toInt_inj.mp
      rw [n_toInt (by omega)]
      omega
    · rw [if_neg h2]
      by_cases h3 : v.toInt < 0
      · rw [if_pos h3]; rfl
      · rw [if_neg h3, if_pos (by omega), show v.toInt.toNat = 0 by omega]; rfl
  · simp only [if_neg h1, n_toInt (show B < 2147483648 by omega)]
    rw [if_neg (show ¬ v.toInt < 0 by omega)]
    by_cases h2 : v.toInt ≤ B
    · rw [if_pos h2, show v.toInt.toNat = B by omega]
      by_cases h3 : 0 < (B : Int)
      · rw [if_pos h3]
      · rw [if_neg h3, show B = 0 by omega]; rfl
    · rw [if_neg h2]
      by_cases h3 : 0 < (B : Int)
      · rw [if_pos h3]
      · rw [if_neg h3, show B = 0 by omega]; rfl
theorem v_lesser (a b : Nat) (ha : a < 1000) (hb : b < 1000) : f_X10_lesser (Int32.ofNat a) (Int32.ofNat b) = some (Int32.ofNat (min a b)) := by
  unfold f_X10_lesser
  by_cases h : b ≤ a
  · rw [if_pos (by rw [n_le (by omega) (by omega)]; exact h), Nat.min_eq_right h]
  · rw [if_neg (by rw [n_le (by omega) (by omega)]; exact h), Nat.min_eq_left (by omega)]
theorem v_greater (a b : Nat) (ha : a < 1000) (hb : b < 1000) : f_X10_greater (Int32.ofNat a) (Int32.ofNat b) = some (Int32.ofNat (max a b)) := by
  unfold f_X10_greater
  by_cases h : a ≤ b
  · rw [if_pos (by rw [n_le (by omega) (by omega)]; exact h), Nat.max_eq_right h]
  · rw [if_neg (by rw [n_le (by omega) (by omega)]; exact h), Nat.max_eq_left (by omega)]
section
variable {μ : hm_M} {L : List pc_K} {a b : Nat}
theorem j10_lost (ha : a < 8) (hb : b < 8) (hR : bR (μ.1 181)) (hL : FL (μ.1 181) L) : ∃ μ1, fq μ μ1 ∧ f_X10_lostOf (Int32.ofNat a) (Int32.ofNat b) μ = some (Int32.ofNat (s_lost L (μ.1 181) a b), μ1) := by
  have m1 : min a b < 8 := by omega
  have m2 : max a b < 8 := by omega
  obtain ⟨μ1, f1, e1⟩ := x10_tells (hd := 0) (high := 9) (wo := Int32.ofNat (far9 (nat (μ.1 181 a)) (nat (μ.1 181 b)))) (by decide) hL (x10_sets2 m1 m2 hR)
  refine ⟨μ1, f1, ?_⟩
  obtain ⟨⟨c1, lc1⟩, -⟩ := hR.1 a ha
  obtain ⟨⟨d1, ld1⟩, -⟩ := hR.1 b hb
  unfold f_X10_lostOf
  rw [v_lesser a b (by omega) (by omega), Option.bind_some, v_greater a b (by omega) (by omega), Option.bind_some, v_far10 ha hb c1 d1 lc1 ld1, Option.bind_some, show (1 : Int32) = Int32.ofNat (0 + 1) from rfl, e1, b2_some]
  unfold s_lost
  cases pc_told 0 (en2 (μ.1 181) (min a b) (max a b)) L with
  | none => rfl
  | some v =>
    show some ((cc 0 9 v).toInt32, μ1) = _
    rw [show (9 : Int32) = Int32.ofNat 9 from rfl, cc_n (by decide) (by decide)]
theorem j10_bar (ha : a < 8) (hb : b < 8) (hR : bR (μ.1 181)) (hL : FL (μ.1 181) L) : ∃ μ1, fq μ μ1 ∧ f_X10_isBarred (Int32.ofNat a) (Int32.ofNat b) μ = some (zb (s_bar L (μ.1 181) a b), μ1) := by
  have m1 : min a b < 8 := by omega
  have m2 : max a b < 8 := by omega
  obtain ⟨μ1, f1, e1⟩ := x10_tells (hd := 2) (high := 1) (wo := 0) (by decide) hL (x10_sets2 m1 m2 hR)
  refine ⟨μ1, f1, ?_⟩
  unfold f_X10_isBarred
  rw [v_lesser a b (by omega) (by omega), Option.bind_some, v_greater a b (by omega) (by omega), Option.bind_some, show (3 : Int32) = Int32.ofNat (2 + 1) from rfl, e1, b2_some]
  unfold s_bar
  cases pc_told 2 (en2 (μ.1 181) (min a b) (max a b)) L with
  | none => rfl
  | some v =>
    show (if (cc 2 1 v).toInt32 = 1 then _ else _) = _
    rw [cc_2, if_pos rfl]
    rfl
theorem j10_tire (ha : a < 8) (hL : FL (μ.1 181) L) : ∃ μ1, fq μ μ1 ∧ f_X10_tiresBy (Int32.ofNat a) μ = some (Int32.ofNat (s_tire L (μ.1 181) a), μ1) := by
  obtain ⟨μ1, f1, e1⟩ := x10_tells (hd := 1) (high := 4) (wo := 0) (by decide) hL (x10_sets1 ha)
  refine ⟨μ1, f1, ?_⟩
  unfold f_X10_tiresBy
  rw [show (2 : Int32) = Int32.ofNat (1 + 1) from rfl, e1, b2_some]
  unfold s_tire
  cases pc_told 1 (en1 (μ.1 181) a) L with
  | none => rfl
  | some v =>
    show some ((cc 1 4 v).toInt32, μ1) = _
    rw [show (4 : Int32) = Int32.ofNat 4 from rfl, cc_n (by decide) (by decide)]
theorem j10_near (ha : a < 8) (hb : b < 8) (hR : bR (μ.1 181)) : f_X10_areNear (Int32.ofNat a) (Int32.ofNat b) μ = some (zb (s_near (μ.1 181) a b)) := by
  obtain ⟨⟨c1, lc1⟩, ⟨r1, lr1⟩, -⟩ := hR.1 a ha
  obtain ⟨⟨d1, ld1⟩, ⟨r2, lr2⟩, -⟩ := hR.1 b hb
  have hf := far9_le lc1 ld1
  unfold f_X10_areNear s_near
  rw [v_far10 ha hb c1 d1 lc1 ld1, Option.bind_some, show (8 : Int32) = Int32.ofNat 8 from rfl, n_add, n_add, ld_n (by omega) (by decide), Option.bind_some, ld_n (by omega) (by decide), Option.bind_some, r1, r2, n_add]
  by_cases h : far9 (nat (μ.1 181 a)) (nat (μ.1 181 b)) ≤ nat (μ.1 181 (8 + a)) + nat (μ.1 181 (8 + b))
  · rw [if_neg (by rw [n_lt (by omega) (by omega)]; omega), nat_n (by omega), nat_n (by omega), decide_eq_true h]
    rfl
  · rw [if_pos (by rw [n_lt (by omega) (by omega)]; omega), nat_n (by omega), nat_n (by omega), decide_eq_false h]
    rfl
theorem j10_can (ha : a < 8) (hb : b < 8) (hR : bR (μ.1 181)) (hL : FL (μ.1 181) L) : ∃ μ1, fq μ μ1 ∧ f_X10_canHold (Int32.ofNat a) (Int32.ofNat b) μ = some (zb (s_can L (μ.1 181) a b), μ1) := by
  unfold f_X10_canHold s_can
  rw [j10_near ha hb hR, Option.bind_some]
  cases s_near (μ.1 181) a b with
  | false => exact ⟨μ, fq_refl μ, rfl⟩
  | true =>
    obtain ⟨μ1, f1, e1⟩ := j10_bar ha hb hR hL
    refine ⟨μ1, f1, ?_⟩
    rw [if_neg (by decide), e1, b2_some]
    cases s_bar L (μ.1 181) a b <;> rfl
end
/-- the component's own words -/
def fj (μ μ1 : hm_M) : Prop := μ1.2 = μ.2 ∧ ∀ a j, a ≠ 108 → a ≠ 109 → ¬ (a = 107 ∧ j = 2) → μ1.1 a j = μ.1 a j
theorem fj_refl (μ : hm_M) : fj μ μ := ⟨rfl, fun _ _ _ _ _ => rfl⟩
theorem fj_trans {μ μ1 μ2 : hm_M} (h : fj μ μ1) (g : fj μ1 μ2) : fj μ μ2 := ⟨g.1.trans h.1, fun a j h1 h2 h3 => (g.2 a j h1 h2 h3).trans (h.2 a j h1 h2 h3)⟩
theorem fj_fm {μ μ1 : hm_M} (h : fm 107 μ μ1) : fj μ μ1 := ⟨h.1, fun a j h1 _ h3 => h.2 a j h1 h3⟩
theorem fj_w {μ μ1 : hm_M} (h : fj μ μ1) (j : Nat) (x : Int32) : fj μ (hm_wI μ1 109 j x) := ⟨h.1, fun a k h1 h2 h3 => by rw [wI_ne (by omega)]; exact h.2 a k h1 h2 h3⟩
def VJ (μ : hm_M) (v : Nat) (ρ : Nat → Int32) : Prop := (∀ i, i < 8 → μ.1 (v + 1) i = ρ i ∧ μ.1 (v + 2) i = ρ (8 + i) ∧ μ.1 (v + 3) i = ρ (25 + i)) ∧ μ.1 (v + 5) 0 = ρ 24 ∧ μ.1 (v + 5) 2 = ρ 52
theorem VB.j {μ : hm_M} {v : Nat} {ρ : Nat → Int32} (h : VB μ v ρ) : VJ μ v ρ := ⟨fun i hi => ⟨(h.2.1 i hi).1, (h.2.1 i hi).2.1, (h.2.1 i hi).2.2.1⟩, h.2.2.1.1, h.2.2.1.2.2.1⟩
def vO (v : Nat) : Prop := v + 9 < 107 ∨ 115 < v
theorem VJ.fj {μ μ1 : hm_M} {v : Nat} {ρ : Nat → Int32} (h : VJ μ v ρ) (hv : vO v) (f : fj μ μ1) : VJ μ1 v ρ := by
  unfold vO at hv
  refine ⟨fun i hi => ?_, ?_, ?_⟩
  · rw [f.2 _ _ (by omega) (by omega) (by omega), f.2 _ _ (by omega) (by omega) (by omega), f.2 _ _ (by omega) (by omega) (by omega)]
    exact h.1 i hi
  · rw [f.2 _ _ (by omega) (by omega) (by omega)]; exact h.2.1
  · rw [f.2 _ _ (by omega) (by omega) (by omega)]; exact h.2.2
def LJ (μ : hm_M) (law : Option Nat) (L : List pc_K) : Prop := (law = none ∧ L = []) ∨ ∃ p C, law = some p ∧ 205 ≤ p ∧ PGM μ p C L ∧ ∀ k ∈ L, clOK 8 (pg9 μ p) k ∧ k.1.2.2.2.2.1 ≤ C.length
theorem LJ.fj {μ μ1 : hm_M} {law : Option Nat} {L : List pc_K} (h : LJ μ law L) (f : fj μ μ1) : LJ μ1 law L := by
  rcases h with h | ⟨p, C, h1, h2, h3, h4⟩
  · exact Or.inl h
  · refine Or.inr ⟨p, C, h1, h2, h3.same (fun a q1 q2 j => f.2 a j (by omega) (by omega) (by omega)) (congrArg (fun z => z.2.2.2.2) f.1), ?_⟩
    have epg : pg9 μ1 p = pg9 μ p := funext fun j => by
      unfold pg9
      rw [f.2 _ _ (by omega) (by omega) (by omega), f.2 _ _ (by omega) (by omega) (by omega)]
    rw [epg]
    exact h4
theorem told_mem {h : Nat} {e : Nat → Int32} {L : List pc_K} {v : Int32} (hv : pc_told h e L = some v) : ∃ k ∈ L, k.2.1 e = some v := by
  induction L with
  | nil => cases hv
  | cons k L ih =>
    have e1 : pc_told h e (k :: L) = match pc_told h e L with
      | some v => some v
      | none => pc_cl h k e := rfl
    rw [e1] at hv
    cases e2 : pc_told h e L with
    | some w =>
      rw [e2] at hv
      cases hv
      obtain ⟨q, q1, q2⟩ := ih e2
      exact ⟨q, List.mem_cons_of_mem _ q1, q2⟩
    | none =>
      rw [e2] at hv
      refine ⟨k, List.mem_cons_self, ?_⟩
      have hv : pc_cl h k e = some v := hv
      unfold pc_cl at hv
      split at hv
      · split at hv
        · exact hv
        · split at hv
          · exact hv
          · cases hv
      · cases hv
theorem told_ne {μ : hm_M} {p h : Nat} {e : Nat → Int32} {L : List pc_K} {v : Int32} {C : pc_C} (hc : ∀ k ∈ L, clOK 8 (pg9 μ p) k ∧ k.1.2.2.2.2.1 ≤ C.length) (he : ∀ k, (e k).toInt.natAbs ≤ 1000000000) (hv : pc_told h e L = some v) : v ≠ 2000000000 := by
  obtain ⟨k, h1, h2⟩ := told_mem hv
  rintro rfl
  have : (2000000000 : Int32).toInt.natAbs ≤ 1000000000 := by
    rcases (hc k h1).1.1 with ⟨-, z⟩ | ⟨-, z, -⟩
    · rw [z] at h2
      cases h2
    · exact z e he _ h2
  exact absurd this (by decide)
theorem nb_n {n : Nat} (h : n ≤ 1000000000) : (Int32.ofNat n).toInt.natAbs ≤ 1000000000 := by
  rw [n_toInt (by omega)]
  omega
theorem nb_bd {x : Int32} {B : Nat} (h : bd x B) (hB : B ≤ 1000000000) : x.toInt.natAbs ≤ 1000000000 := by
  rw [h.1]
  have := h.2
  exact nb_n (by omega)
theorem en2_bd {ρ : Nat → Int32} (hR : bR ρ) {a b : Nat} (ha : a < 8) (hb : b < 8) (k : Nat) : (en2 ρ a b k).toInt.natAbs ≤ 1000000000 := by
  obtain ⟨c1, r1, k1⟩ := hR.1 a ha
  obtain ⟨c2, r2, k2⟩ := hR.1 b hb
  have := far9_le c1.2 c2.2
  unfold en2
  repeat' split
  · exact nb_n (by omega)
  · exact nb_n (by omega)
  · exact nb_bd k1 (by decide)
  · exact nb_bd k2 (by decide)
  · exact nb_n (by omega)
  · have := r1.2
    have := r2.2
    rw [r1.1, r2.1, n_add]
    exact nb_n (by omega)
  · exact nb_bd hR.2.1 (by decide)
  · exact nb_bd hR.2.2 (by decide)
theorem en1_bd {ρ : Nat → Int32} (hR : bR ρ) {a : Nat} (ha : a < 8) (k : Nat) : (en1 ρ a k).toInt.natAbs ≤ 1000000000 := by
  obtain ⟨c1, r1, k1⟩ := hR.1 a ha
  unfold en1
  repeat' split
  · exact nb_n (by omega)
  · decide
  · exact nb_bd k1 (by decide)
  · decide
  · decide
  · exact nb_bd r1 (by decide)
  · exact nb_bd hR.2.1 (by decide)
  · exact nb_bd hR.2.2 (by decide)
section
variable {μ : hm_M} {L : List pc_K} {ρ : Nat → Int32} {a b v : Nat} {law : Option Nat}
theorem x3_words {r : Int32} (ha : a < 8) (hJ : VJ μ v ρ) (hv : vO v) : ∃ μ4, f_X3_setWords v (Int32.ofNat a) r μ = some μ4 ∧ fj μ μ4 ∧ μ4.1 109 0 = Int32.ofNat a ∧ μ4.1 109 2 = ρ (25 + a) ∧ μ4.1 109 5 = r ∧ μ4.1 109 6 = ρ 24 ∧ μ4.1 109 7 = ρ 52 := by
  unfold vO at hv
  refine ⟨_, by
    unfold f_X3_setWords
    rw [show (0 : Int32) = Int32.ofNat 0 from rfl, show (2 : Int32) = Int32.ofNat 2 from rfl, show (5 : Int32) = Int32.ofNat 5 from rfl, show (6 : Int32) = Int32.ofNat 6 from rfl, show (7 : Int32) = Int32.ofNat 7 from rfl, sd_n (by decide) (by decide), Option.bind_some, ld_n ha (by decide), Option.bind_some, sd_n (by decide) (by decide), Option.bind_some, sd_n (by decide) (by decide), Option.bind_some, ld_n (by decide) (by decide), Option.bind_some, sd_n (by decide) (by decide), Option.bind_some, ld_n (by decide) (by decide), Option.bind_some, sd_n (by decide) (by decide), Option.bind_some], fj_w (fj_w (fj_w (fj_w (fj_w (fj_refl μ) _ _) _ _) _ _) _ _) _ _, ?_, ?_, ?_, ?_, ?_⟩ <;> simp (disch := omega) only [wI_ne, wI_eq]
  · exact (hJ.1 a ha).2.2
  · exact hJ.2.1
  · exact hJ.2.2
theorem x3_J22 {c d : Nat} (ha : a < 8) (hb : b < 8) (hc : c < 8) (hd : d < 8) (hR : bR ρ) (hJ : VJ μ v ρ) (hv : vO v) : ∃ μ4, f_X3_setTwo_J22 v (Int32.ofNat a) (Int32.ofNat b) (Int32.ofNat d) (Int32.ofNat c) μ = some μ4 ∧ fj μ μ4 ∧ μ4.1 109 0 = Int32.ofNat c ∧ μ4.1 109 1 = Int32.ofNat d ∧ μ4.1 109 2 = ρ (25 + c) ∧ μ4.1 109 3 = ρ (25 + d) ∧ μ4.1 109 4 = Int32.ofNat (far9 (nat (ρ a)) (nat (ρ b))) ∧ μ4.1 109 5 = ρ (8 + a) + ρ (8 + b) ∧ μ4.1 109 6 = ρ 24 ∧ μ4.1 109 7 = ρ 52 := by
  obtain ⟨μ1, e1, f1, w0, w2, w5, w6, w7⟩ := x3_words (r := ρ (8 + a) + ρ (8 + b)) hc hJ hv
  have hv2 := hv
  unfold vO at hv2
  have J1 := hJ.fj hv f1
  have f2 : fj μ (hm_wI (hm_wI μ1 109 1 (Int32.ofNat d)) 109 3 (ρ (25 + d))) := fj_w (fj_w f1 _ _) _ _
  have J2 := hJ.fj hv f2
  have c1 := (hR.1 a ha).1
  have c2 := (hR.1 b hb).1
  refine ⟨hm_wI (hm_wI (hm_wI μ1 109 1 (Int32.ofNat d)) 109 3 (ρ (25 + d))) 109 4 (Int32.ofNat (far9 (nat (ρ a)) (nat (ρ b)))), ?_, fj_w f2 _ _, ?_⟩
  · unfold f_X3_setTwo_J22
    rw [ld_n ha (by decide), Option.bind_some, ld_n hb (by decide), Option.bind_some, (hJ.1 a ha).2.1, (hJ.1 b hb).2.1, e1, Option.bind_some, show (1 : Int32) = Int32.ofNat 1 from rfl, show (3 : Int32) = Int32.ofNat 3 from rfl, show (4 : Int32) = Int32.ofNat 4 from rfl, sd_n (by decide) (by decide), Option.bind_some, ld_n hd (by decide), Option.bind_some, wI_ne (by omega), (J1.1 d hd).2.2, sd_n (by decide) (by decide), Option.bind_some, v_far9 ha hb (by rw [(J2.1 a ha).1]; exact c1.1) (by rw [(J2.1 b hb).1]; exact c2.1) c1.2 c2.2, Option.bind_some, sd_n (by decide) (by decide), Option.bind_some]
  · simp (disch := omega) only [wI_ne, wI_eq]
    exact ⟨w0, trivial, w2, trivial, trivial, w5, w6, w7⟩
theorem x3_set2 (ha : a < 8) (hb : b < 8) (hab : a ≠ b) (hR : bR ρ) (hJ : VJ μ v ρ) (hv : vO v) : ∃ μ4, f_X3_setTwo v (Int32.ofNat a) (Int32.ofNat b) μ = some μ4 ∧ fj μ μ4 ∧ ∀ k, k < 8 → μ4.1 109 k = en2 ρ (min a b) (max a b) k := by
  unfold f_X3_setTwo f_X3_setTwo_J10
  by_cases h : b ≤ a
  · have h1 : Int32.ofNat b ≤ Int32.ofNat a := by rw [n_le (by omega) (by omega)]; exact h
    rw [if_pos h1, if_pos h1]
    obtain ⟨μ4, e1, f1, w0, w1, w2, w3, w4, w5, w6, w7⟩ := x3_J22 (c := b) (d := a) ha hb hb ha hR hJ hv
    refine ⟨μ4, e1, f1, fun k hk => ?_⟩
    rw [Nat.min_eq_right h, Nat.max_eq_left h]
    have hk8 : k = 0 ∨ k = 1 ∨ k = 2 ∨ k = 3 ∨ k = 4 ∨ k = 5 ∨ k = 6 ∨ k = 7 := by omega
    rcases hk8 with rfl | rfl | rfl | rfl | rfl | rfl | rfl | rfl
    · exact w0
    · exact w1
    · exact w2
    · exact w3
    · rw [w4, far9_comm]; rfl
    · rw [w5, Int32.add_comm]; rfl
    · exact w6
    · exact w7
  · have h1 : ¬ Int32.ofNat b ≤ Int32.ofNat a := by rw [n_le (by omega) (by omega)]; exact h
    rw [if_neg h1, if_neg h1]
    obtain ⟨μ4, e1, f1, w0, w1, w2, w3, w4, w5, w6, w7⟩ := x3_J22 (c := a) (d := b) ha hb ha hb hR hJ hv
    refine ⟨μ4, e1, f1, fun k hk => ?_⟩
    rw [Nat.min_eq_left (by omega), Nat.max_eq_right (by omega)]
    have hk8 : k = 0 ∨ k = 1 ∨ k = 2 ∨ k = 3 ∨ k = 4 ∨ k = 5 ∨ k = 6 ∨ k = 7 := by omega
    rcases hk8 with rfl | rfl | rfl | rfl | rfl | rfl | rfl | rfl
    · exact w0
    · exact w1
    · exact w2
    · exact w3
    · exact w4
    · exact w5
    · exact w6
    · exact w7
theorem x3_lt {e : Nat → Int32} {h : Nat} (hh : h < 4) (hL : LJ μ law L) (hW : hm_ln μ 109 = 8) (he : ∀ k, k < 8 → μ.1 109 k = e k) (hb : ∀ k, (e k).toInt.natAbs ≤ 1000000000) : ∃ μ2, fj μ μ2 ∧ ((pc_told h e L = none ∧ f_X3_lastTold law (Int32.ofNat h) μ = some (2000000000, μ2)) ∨ ∃ w, pc_told h e L = some w ∧ w ≠ 2000000000 ∧ f_X3_lastTold law (Int32.ofNat h) μ = some (w, μ2)) := by
  rcases hL with ⟨rfl, rfl⟩ | ⟨p, C, rfl, h2, h3, h4⟩
  · exact ⟨μ, fj_refl μ, Or.inl ⟨rfl, rfl⟩⟩
  · obtain ⟨μ2, f2, e2⟩ := x3_told h2 h3 hW he h4 hh
    refine ⟨μ2, fj_fm f2, ?_⟩
    cases ht : pc_told h e L with
    | none => rw [ht] at e2; exact Or.inl ⟨rfl, e2⟩
    | some w => rw [ht] at e2; exact Or.inr ⟨w, rfl, told_ne h4 hb ht, e2⟩
theorem j9_lost (ha : a < 8) (hb : b < 8) (hab : a ≠ b) (hR : bR ρ) (hJ : VJ μ v ρ) (hv : vO v) (hL : LJ μ law L) (hW : hm_ln μ 109 = 8) : ∃ μ1, fj μ μ1 ∧ f_X3_lostBetween v law (Int32.ofNat a) (Int32.ofNat b) μ = some (Int32.ofNat (s_lost L ρ a b), μ1) := by
  obtain ⟨μ4, e1, f1, w⟩ := x3_set2 ha hb hab hR hJ hv
  obtain ⟨μ2, f2, alt⟩ := x3_lt (h := 0) (by decide) (hL.fj f1) ((congrArg (fun z => z.2.2.2.2 109) f1.1).trans hW) w (en2_bd hR (by omega) (by omega))
  have f12 := fj_trans f1 f2
  refine ⟨μ2, f12, ?_⟩
  unfold f_X3_lostBetween s_lost
  rw [e1, Option.bind_some, show (0 : Int32) = Int32.ofNat 0 from rfl]
  rcases alt with ⟨t1, t2⟩ | ⟨x, t1, t2, t3⟩
  · have J2 := hJ.fj hv f12
    have c1 := (hR.1 a ha).1
    have c2 := (hR.1 b hb).1
    rw [t2, b2_some, if_pos rfl, v_far9 ha hb (by rw [(J2.1 a ha).1]; exact c1.1) (by rw [(J2.1 b hb).1]; exact c2.1) c1.2 c2.2, Option.bind_some, t1]
  · rw [t3, b2_some, if_neg t2, t1, show (9 : Int32) = Int32.ofNat 9 from rfl]
    show some ((if (0 : Int32) < _ then _ else (0 : Int32)), μ2) = _
    rw [cl9 (by decide)]
theorem j9_bar (ha : a < 8) (hb : b < 8) (hab : a ≠ b) (hR : bR ρ) (hJ : VJ μ v ρ) (hv : vO v) (hL : LJ μ law L) (hW : hm_ln μ 109 = 8) : ∃ μ1, fj μ μ1 ∧ f_X3_isBarred v law (Int32.ofNat a) (Int32.ofNat b) μ = some (zb (s_bar L ρ a b), μ1) := by
  obtain ⟨μ4, e1, f1, w⟩ := x3_set2 ha hb hab hR hJ hv
  obtain ⟨μ2, f2, alt⟩ := x3_lt (h := 2) (by decide) (hL.fj f1) ((congrArg (fun z => z.2.2.2.2 109) f1.1).trans hW) w (en2_bd hR (by omega) (by omega))
  refine ⟨μ2, fj_trans f1 f2, ?_⟩
  unfold f_X3_isBarred s_bar
  rw [e1, Option.bind_some, show (2 : Int32) = Int32.ofNat 2 from rfl]
  rcases alt with ⟨t1, t2⟩ | ⟨x, t1, t2, t3⟩
  · rw [t2, b2_some, if_pos rfl, t1]
    rfl
  · rw [t3, b2_some, if_neg t2, t1]
    rfl
theorem j9_near (ha : a < 8) (hb : b < 8) (hR : bR ρ) (hJ : VJ μ v ρ) : f_X8_withinReach v (Int32.ofNat a) (Int32.ofNat b) μ = some (zb (s_near ρ a b)) := by
  obtain ⟨⟨c1, lc1⟩, ⟨r1, lr1⟩, -⟩ := hR.1 a ha
  obtain ⟨⟨d1, ld1⟩, ⟨r2, lr2⟩, -⟩ := hR.1 b hb
  have hf := far9_le lc1 ld1
  unfold f_X8_withinReach s_near
  rw [v_far9 ha hb (by rw [(hJ.1 a ha).1]; exact c1) (by rw [(hJ.1 b hb).1]; exact d1) lc1 ld1, Option.bind_some, ld_n ha (by decide), Option.bind_some, ld_n hb (by decide), Option.bind_some, (hJ.1 a ha).2.1, (hJ.1 b hb).2.1, r1, r2, n_add]
  by_cases h : far9 (nat (ρ a)) (nat (ρ b)) ≤ nat (ρ (8 + a)) + nat (ρ (8 + b))
  · rw [if_neg (by rw [n_lt (by omega) (by omega)]; omega), nat_n (by omega), nat_n (by omega), decide_eq_true h]
    rfl
  · rw [if_pos (by rw [n_lt (by omega) (by omega)]; omega), nat_n (by omega), nat_n (by omega), decide_eq_false h]
    rfl
theorem j9_can (ha : a < 8) (hb : b < 8) (hab : a ≠ b) (hR : bR ρ) (hJ : VJ μ v ρ) (hv : vO v) (hL : LJ μ law L) (hW : hm_ln μ 109 = 8) : ∃ μ1, fj μ μ1 ∧ f_X3_canHold v law (Int32.ofNat a) (Int32.ofNat b) μ = some (zb (s_can L ρ a b), μ1) := by
  unfold f_X3_canHold s_can
  rw [j9_near ha hb hR hJ, Option.bind_some]
  cases s_near ρ a b with
  | false => exact ⟨μ, fj_refl μ, rfl⟩
  | true =>
    obtain ⟨μ4, e1, f1, w⟩ := x3_set2 ha hb hab hR hJ hv
    obtain ⟨μ2, f2, alt⟩ := x3_lt (h := 2) (by decide) (hL.fj f1) ((congrArg (fun z => z.2.2.2.2 109) f1.1).trans hW) w (en2_bd hR (by omega) (by omega))
    refine ⟨μ2, fj_trans f1 f2, ?_⟩
    rw [if_neg (by decide), e1, Option.bind_some, show (2 : Int32) = Int32.ofNat 2 from rfl]
    unfold s_bar
    rcases alt with ⟨t1, t2⟩ | ⟨x, t1, t2, t3⟩
    · rw [t2, b2_some, if_pos rfl, t1]
      rfl
    · rw [t3, b2_some, if_neg t2, t1]
      rfl
theorem j9_tire (ha : a < 8) (hR : bR ρ) (hJ : VJ μ v ρ) (hv : vO v) (hL : LJ μ law L) (hW : hm_ln μ 109 = 8) : ∃ μ1, fj μ μ1 ∧ f_X3_tiresBy v law (Int32.ofNat a) μ = some (Int32.ofNat (s_tire L ρ a), μ1) := by
  obtain ⟨μ1, e1, f1, w0, w2, w5, w6, w7⟩ := x3_words (r := ρ (8 + a)) ha hJ hv
  have f4 : fj μ (hm_wI (hm_wI (hm_wI μ1 109 1 (-1)) 109 3 (-1)) 109 4 (-1)) := fj_w (fj_w (fj_w f1 _ _) _ _) _ _
  have w : ∀ k, k < 8 → (hm_wI (hm_wI (hm_wI μ1 109 1 (-1)) 109 3 (-1)) 109 4 (-1)).1 109 k = en1 ρ a k := by
    intro k hk
    have hk8 : k = 0 ∨ k = 1 ∨ k = 2 ∨ k = 3 ∨ k = 4 ∨ k = 5 ∨ k = 6 ∨ k = 7 := by omega
    rcases hk8 with rfl | rfl | rfl | rfl | rfl | rfl | rfl | rfl <;> simp (disch := omega) only [wI_ne, wI_eq]
    · exact w0
    · rfl
    · exact w2
    · rfl
    · rfl
    · exact w5
    · exact w6
    · exact w7
  obtain ⟨μ2, f2, alt⟩ := x3_lt (h := 1) (by decide) (hL.fj f4) ((congrArg (fun z => z.2.2.2.2 109) f4.1).trans hW) w (en1_bd hR ha)
  refine ⟨μ2, fj_trans f4 f2, ?_⟩
  unfold f_X3_tiresBy s_tire
  rw [ld_n ha (by decide), Option.bind_some, (hJ.1 a ha).2.1, e1, Option.bind_some, show (1 : Int32) = Int32.ofNat 1 from rfl, show (3 : Int32) = Int32.ofNat 3 from rfl, sd_n (by decide) (by decide), Option.bind_some, sd_n (by decide) (by decide), Option.bind_some, show (4 : Int32) = Int32.ofNat 4 from rfl, sd_n (by decide) (by decide), Option.bind_some]
  rcases alt with ⟨t1, t2⟩ | ⟨x, t1, t2, t3⟩
  · rw [show (-Int32.ofNat 1 : Int32) = -1 from rfl, t2, b2_some, if_pos rfl, t1]
    rfl
  · rw [show (-Int32.ofNat 1 : Int32) = -1 from rfl, t3, b2_some, if_neg t2, t1]
    show some ((if (0 : Int32) < _ then _ else (0 : Int32)), μ2) = _
    rw [cl9 (by decide)]
end
end
