section
/-! The reference's rounds by sets. -/
theorem v_low {S : Nat} (hS : S < 256) (h1 : 1 ≤ S) : f_X10_lowest (Int32.ofNat S) = some (Int32.ofNat (lwt S)) := by
  obtain ⟨p1, p2⟩ := lwt_p S hS h1
  have l8 : lwt S < 8 := by
    have key : ∀ S, S < 256 → lwt S < 8 := by decide +kernel
    exact key S hS
  unfold f_X10_lowest
  refine lo1 (L := f_X10_lowest_L2 (Int32.ofNat S) (fun z3_1 => some z3_1)) (fun k y => y = Int32.ofNat k) (fun o => o = some (Int32.ofNat (lwt S))) (lwt S) (fun k y hk hI => Or.inl ?_) (fun y hI F => ?_) (fu_lt (by omega)) rfl
  · subst hI
    refine ⟨_, rfl, fun F => ?_⟩
    rw [f_X10_lowest_L2, v_isIn hS (by omega), Option.bind_some, p2 k hk, if_pos (show zb false = 0 from rfl), show Int32.ofNat k + 1 = Int32.ofNat (k + 1) from n_add k 1]
  · subst hI
    rw [f_X10_lowest_L2, v_isIn hS l8, Option.bind_some, p1, if_neg (show ¬ zb true = 0 by decide)]
theorem an_xor {S l : Nat} (hS : S < 256) (hl : l < 8) (h : S.testBit l = true) : S &&& (2 ^ l ^^^ 255) = S ^^^ 2 ^ l := Nat.eq_of_testBit_eq fun x => by
  rw [Nat.testBit_and, bit_xp, Nat.testBit_xor, Nat.testBit_two_pow, show (255 : Nat) = 2 ^ 8 - 1 from rfl, Nat.testBit_two_pow_sub_one]
  by_cases z : x = l
  · subst z
    rw [h]
    simp
    omega
  · have z' : ¬ l = x := fun q => z q.symm
    rw [decide_eq_false z, decide_eq_false z']
    by_cases y : x < 8
    · simp [y]
    · have : S.testBit x = false := Nat.testBit_lt_two_pow (Nat.lt_of_lt_of_le hS (show 256 ≤ 2 ^ x from Nat.pow_le_pow_right (n := 2) (by decide) (show 8 ≤ x by omega)))
      simp [y, this]
/-- one entry -/
def EQt (c : Nat → Nat → Nat) (n : Nat) (t : Nat → Nat → Nat) (S l : Nat) : Prop := (S.testBit l = false → t S l = 1000000) ∧ (S.testBit l = true → (S = 2 ^ l → t S l = 0) ∧ (S ≠ 2 ^ l → lowB S l → t S l = 1000000) ∧ (¬ lowB S l → t S l = mn (fun p => if p ≠ l ∧ S.testBit p = true then rop false (t (S ^^^ 2 ^ l) p) (c p l) else 1000000) n))
def rdr (c : Nat → Nat → Nat) (n : Nat) (t : Nat → Nat → Nat) (S : Nat) : Nat → Nat
  | 0 => 1000000
  | P + 1 => if 3 ≤ pop S then min (rdr c n t S P) (t S P + (if P = lwt S then 1000000 else c P (lwt S))) else 1000000
theorem rdr_I {c : Nat → Nat → Nat} {n : Nat} {t : Nat → Nat → Nat} {S : Nat} : ∀ P, rdr c n t S P ≤ 1000000
  | 0 => Nat.le_refl _
  | P + 1 => by
    have := rdr_I (c := c) (n := n) (t := t) (S := S) P
    unfold rdr
    split <;> omega
def PTm (m : hm_M) (n G : Nat) (c : Nat → Nat → Nat) (t : Nat → Nat → Nat) : Prop := ∀ S, 1 ≤ S → S < G → m.1 201 S = Int32.ofNat (rdr c n t S n) ∧ ∀ l, l < n → m.1 200 (8 * S + l) = Int32.ofNat (t S l) ∧ t S l ≤ 1000000 ∧ EQt c n t S l
def fP (m m1 : hm_M) : Prop := m1.2 = m.2 ∧ ∀ a j, a ≠ 200 → a ≠ 201 → m1.1 a j = m.1 a j
theorem fP_trans {m m1 m2 : hm_M} (h : fP m m1) (g : fP m1 m2) : fP m m2 := ⟨g.1.trans h.1, fun a j z1 z2 => (g.2 a j z1 z2).trans (h.2 a j z1 z2)⟩
theorem fP_refl (m : hm_M) : fP m m := ⟨rfl, fun _ _ _ _ => rfl⟩
theorem fP_w {m m1 : hm_M} (h : fP m m1) {a : Nat} (ha : a = 200 ∨ a = 201) (j : Nat) (x : Int32) : fP m (hm_wI m1 a j x) := ⟨h.1, fun b k z1 z2 => by rw [wI_ne (by omega)]; exact h.2 b k z1 z2⟩
variable {m : hm_M} {n : Nat} {c : Nat → Nat → Nat}
theorem v_less {a b : Nat} (ha : a ≤ 1000000) (hb : b ≤ 3000000) : f_X10_lesser (Int32.ofNat a) (Int32.ofNat b) = some (Int32.ofNat (min a b)) := by
  unfold f_X10_lesser
  by_cases z : b ≤ a
  · rw [if_pos (by rw [n_le (by omega) (by omega)]; exact z), Nat.min_eq_right z]
  · rw [if_neg (by rw [n_le (by omega) (by omega)]; exact z), Nat.min_eq_left (by omega)]
theorem xor_lt {S l : Nat} (h : S.testBit l = true) : S ^^^ 2 ^ l < S := by
  obtain ⟨h1, h2⟩ := xor_or h rfl
  have := or_gt h2
  omega
theorem low_eq {S l : Nat} (hS : S < 256) (h1 : 1 ≤ S) (h : S.testBit l = true) : lowB S l ↔ l = lwt S := by
  obtain ⟨p1, p2⟩ := lwt_p S hS h1
  constructor
  · intro z
    rcases Nat.lt_or_ge (lwt S) l with y | y
    · rw [z _ y] at p1; cases p1
    · rcases Nat.lt_or_ge l (lwt S) with y2 | y2
      · rw [p2 _ y2] at h; cases h
      · omega
  · intro z x hx
    exact p2 x (by omega)
theorem v_path {t : Nat → Nat → Nat} {G l : Nat} (hn : n ≤ 8) (h54 : m.1 181 54 = Int32.ofNat n) (hC : CRd m n c) (hc : c9 c) (hG : G < 2 ^ n) (hG1 : 1 ≤ G) (hl : l < n) (hb : G.testBit l = true) (hP : ∀ p, p < n → 1 ≤ G ^^^ 2 ^ l → m.1 200 (8 * (G ^^^ 2 ^ l) + p) = Int32.ofNat (t (G ^^^ 2 ^ l) p) ∧ t (G ^^^ 2 ^ l) p ≤ 1000000) : f_X10_pathOf (Int32.ofNat G) (Int32.ofNat l) m = some (Int32.ofNat (if l = lwt G then (if G = 2 ^ l then 0 else 1000000) else mn (fun p => if p ≠ l ∧ G.testBit p = true then rop false (t (G ^^^ 2 ^ l) p) (c p l) else 1000000) n)) := by
  have h256 := p256 hn
  have l8 : lwt G < 8 := by
    have key : ∀ S, S < 256 → lwt S < 8 := by decide +kernel
    exact key G (by omega)
  have hx := xor_lt hb
  unfold f_X10_pathOf
  rw [n_shl l (by omega), n_an (by omega) (p2_lt (by omega)), an_xor (by omega) (by omega) hb, Option.bind_some, v_low (by omega) hG1, Option.bind_some]
  by_cases z : l = lwt G
  · rw [if_pos (by rw [← z]), if_pos z]
    by_cases y : G = 2 ^ l
    · rw [if_pos y, if_pos (by rw [← y, Nat.xor_self]; rfl)]
      rfl
    · rw [if_neg y, if_neg]
      · rfl
      · rw [show (0 : Int32) = Int32.ofNat 0 from rfl, n_eq (by omega) (by omega)]
        intro e
        obtain ⟨q1, -⟩ := xor_or hb e
        rw [Nat.zero_or] at q1
        exact y q1
  · have hx1 : 1 ≤ G ^^^ 2 ^ l := by
      rcases Nat.eq_zero_or_pos (G ^^^ 2 ^ l) with e | e
      · exfalso
        obtain ⟨q1, -⟩ := xor_or hb e
        rw [Nat.zero_or] at q1
        obtain ⟨p1, -⟩ := lwt_p G (by omega) hG1
        rw [q1, Nat.testBit_two_pow] at p1
        have p1 := of_decide_eq_true p1
        rw [← q1] at p1
        exact z p1
      · exact e
    rw [if_neg (by rw [n_eq (by omega) (by omega)]; exact z), if_neg z]
    refine lo3 (L := f_X10_pathOf_L38 (Int32.ofNat G) (Int32.ofNat l) (Int32.ofNat (G ^^^ 2 ^ l)) (fun z9_5 μz9 => some z9_5)) (fun k y1 y2 m1 => y1 = Int32.ofNat (mn (fun p => if p ≠ l ∧ G.testBit p = true then rop false (t (G ^^^ 2 ^ l) p) (c p l) else 1000000) k) ∧ y2 = Int32.ofNat k ∧ m1 = m) (fun o => o = _) n (fun k y1 y2 m1 hk hI => Or.inl ?_) (fun y1 y2 m1 hI F => ?_) (fu_lt (by omega)) ⟨rfl, rfl, rfl⟩
    · obtain ⟨rfl, rfl, rfl⟩ := hI
      have hI := mn_I (fun p => if p ≠ l ∧ G.testBit p = true then rop false (t (G ^^^ 2 ^ l) p) (c p l) else 1000000) k
      refine ⟨_, _, m1, ⟨rfl, rfl, rfl⟩, fun F => ?_⟩
      rw [f_X10_pathOf_L38, v_mny, h54, Option.bind_some, if_neg (by rw [n_le (by omega) (by omega)]; omega), v_isIn (by omega) (by omega), Option.bind_some, bit_xp]
      unfold f_X10_pathOf_J88
      rw [show Int32.ofNat k + 1 = Int32.ofNat (k + 1) from n_add k 1]
      have es : mn (fun p => if p ≠ l ∧ G.testBit p = true then rop false (t (G ^^^ 2 ^ l) p) (c p l) else 1000000) (k + 1) = min (mn (fun p => if p ≠ l ∧ G.testBit p = true then rop false (t (G ^^^ 2 ^ l) p) (c p l) else 1000000) k) (if k ≠ l ∧ G.testBit k = true then rop false (t (G ^^^ 2 ^ l) k) (c k l) else 1000000) := rfl
      rw [es]
      by_cases y : k ≠ l ∧ G.testBit k = true
      · obtain ⟨r1, r2⟩ := hP k hk hx1
        have h9 := hc k l (by omega) (by omega)
        have hr : rop false (t (G ^^^ 2 ^ l) k) (c k l) = min 1000000 (t (G ^^^ 2 ^ l) k + c k l) := rfl
        rw [y.2, decide_eq_false y.1, if_neg (show ¬ zb (true != false) = 0 by decide), show (8 : Int32) = Int32.ofNat 8 from rfl, n_mul, n_add, ld_n (by omega) (by decide), Option.bind_some, r1, n_mul, n_add, ld_n (by omega) (by decide), Option.bind_some, hC k l hk hl, if_neg y.1, n_add, v_less hI (by omega), Option.bind_some, if_pos ⟨y.1, rfl⟩, hr]
        congr 2
        omega
      · have e : (G.testBit k != decide (k = l)) = false := by
          by_cases e1 : k = l
          · subst e1; rw [hb]; simp
          · have : G.testBit k = false := by
              cases q : G.testBit k
              · rfl
              · exact absurd ⟨e1, q⟩ y
            rw [this]; simp [e1]
        rw [e, if_pos (show zb false = 0 from rfl), if_neg y, Nat.min_eq_left hI]
    · obtain ⟨rfl, rfl, rfl⟩ := hI
      rw [f_X10_pathOf_L38, v_mny, h54, Option.bind_some, if_pos (by rw [n_le (by omega) (by omega)]; omega)]
theorem v_L27 {t : Nat → Nat → Nat} {G : Nat} (hn : n ≤ 8) (h54 : m.1 181 54 = Int32.ofNat n) (hC : CRd m n c) (hc : c9 c) (hG : G < 2 ^ n) (hG1 : 1 ≤ G) (hP : PTm m n G c t) (h201 : m.1 201 G = 1000000) : ∃ m1 t', (PTm m1 n (G + 1) c t' ∧ fP m m1) ∧ ∀ c7 e126 e120, f_X10_laysRounds_L27 (Int32.ofNat G) c7 e126 e120 hm_fu (Int32.ofNat 0) m = e120 m1 := by
  have h256 := p256 hn
  have l8 : lwt G < n := by
    obtain ⟨p1, -⟩ := lwt_p G (by omega) hG1
    rcases Nat.lt_or_ge (lwt G) n with z | z
    · exact z
    · have := Nat.testBit_lt_two_pow (Nat.lt_of_lt_of_le hG (Nat.pow_le_pow_right (by decide) z))
      rw [p1] at this
      cases this
  have hp8 := pop_le G (by omega)
  -- the new row
  generalize hv : (fun l => if G.testBit l = true then (if l = lwt G then (if G = 2 ^ l then 0 else 1000000) else mn (fun p => if p ≠ l ∧ G.testBit p = true then rop false (t (G ^^^ 2 ^ l) p) (c p l) else 1000000) n) else 1000000) = v
  have vI : ∀ l, v l ≤ 1000000 := fun l => by
    rw [← hv]
    show (if _ then _ else _) ≤ _
    split
    · split
      · split <;> omega
      · exact mn_I _ _
    · omega
  generalize ht' : (fun S l => if S = G then v l else t S l) = t'
  have tG : ∀ l, t' G l = v l := fun l => by rw [← ht']; exact if_pos rfl
  have tO : ∀ S l, S ≠ G → t' S l = t S l := fun S l h => by rw [← ht']; exact if_neg h
  have lp : ∃ (y' : Int32) (m1 : hm_M), (y' = Int32.ofNat n ∧ fP m m1 ∧ (∀ S, S ≠ G → m1.1 201 S = m.1 201 S) ∧ (∀ S l, S ≠ G → l < 8 → m1.1 200 (8 * S + l) = m.1 200 (8 * S + l)) ∧ (∀ l, l < n → m1.1 200 (8 * G + l) = Int32.ofNat (v l)) ∧ m1.1 201 G = Int32.ofNat (rdr c n t' G n)) ∧ ∀ κ : (Int32 → hm_M → Option hm_M) × (hm_M → Option hm_M) × (hm_M → Option hm_M), f_X10_laysRounds_L27 (Int32.ofNat G) κ.1 κ.2.1 κ.2.2 hm_fu (Int32.ofNat 0) m = κ.2.2 m1 := by
    refine lu2 (K := (Int32 → hm_M → Option hm_M) × (hm_M → Option hm_M) × (hm_M → Option hm_M)) (L := fun κ => f_X10_laysRounds_L27 (Int32.ofNat G) κ.1 κ.2.1 κ.2.2) (fun k y m1 => y = Int32.ofNat k ∧ fP m m1 ∧ (∀ S, S ≠ G → m1.1 201 S = m.1 201 S) ∧ (∀ S l, S ≠ G → l < 8 → m1.1 200 (8 * S + l) = m.1 200 (8 * S + l)) ∧ (∀ l, l < k → m1.1 200 (8 * G + l) = Int32.ofNat (v l)) ∧ m1.1 201 G = Int32.ofNat (rdr c n t' G k)) (fun κ _ m1 => κ.2.2 m1) n (fun k y m1 hk hI => ?_) (fun y m1 hI κ F => ?_) (fuel := hm_fu) (fu_lt (by omega)) (a := Int32.ofNat 0) (b := m) ⟨rfl, fP_refl m, fun _ _ => rfl, fun _ _ _ _ => rfl, fun l hl => absurd hl (Nat.not_lt_zero _), h201⟩
    · obtain ⟨rfl, f, g1, g2, g3, g4⟩ := hI
      have n54 : m1.1 181 54 = Int32.ofNat n := by rw [f.2 _ _ (by omega) (by omega)]; exact h54
      have hCm : CRd m1 n c := fun a b ha hb => by rw [f.2 _ _ (by omega) (by omega)]; exact hC a b ha hb
      have hrI := rdr_I (c := c) (n := n) (t := t') (S := G) k
      have vk := vI k
      -- storing it
      have J : ∃ m2, (fP m m2 ∧ (∀ S, S ≠ G → m2.1 201 S = m.1 201 S) ∧ (∀ S l, S ≠ G → l < 8 → m2.1 200 (8 * S + l) = m.1 200 (8 * S + l)) ∧ (∀ l, l < k + 1 → m2.1 200 (8 * G + l) = Int32.ofNat (v l)) ∧ m2.1 201 G = Int32.ofNat (rdr c n t' G (k + 1))) ∧ ∀ c7 e126 c27 e120, f_X10_laysRounds_J64 (Int32.ofNat G) c7 e126 c27 e120 (Int32.ofNat (v k)) (Int32.ofNat (8 * G + k)) (Int32.ofNat k) m1 = c27 (Int32.ofNat (k + 1)) m2 := by
        have f8 : fP m (hm_wI m1 200 (8 * G + k) (Int32.ofNat (v k))) := fP_w f (by omega) _ _
        have w3 : ∀ l, l < k + 1 → (hm_wI m1 200 (8 * G + k) (Int32.ofNat (v k))).1 200 (8 * G + l) = Int32.ofNat (v l) := fun l hl => by
          by_cases e : l = k
          · rw [e, wI_at]
          · rw [wI_ne (by omega)]; exact g3 l (by omega)
        have w2 : ∀ S l, S ≠ G → l < 8 → (hm_wI m1 200 (8 * G + k) (Int32.ofNat (v k))).1 200 (8 * S + l) = m.1 200 (8 * S + l) := fun S l h1 h2 => by
          rw [wI_ne (by omega)]; exact g2 S l h1 h2
        by_cases z : 3 ≤ pop G
        · have hs : rdr c n t' G (k + 1) = min (rdr c n t' G k) (v k + (if k = lwt G then 1000000 else c k (lwt G))) := by
            show (if 3 ≤ pop G then _ else _) = _
            rw [if_pos z, tG]
          have hcb : (if k = lwt G then 1000000 else c k (lwt G)) ≤ 1000000 := by
            split
            · omega
            · have := hc k (lwt G) (by omega) (by omega); omega
          refine ⟨hm_wI (hm_wI m1 200 (8 * G + k) (Int32.ofNat (v k))) 201 G (Int32.ofNat (rdr c n t' G (k + 1))), ⟨fP_w f8 (by omega) _ _, fun S h => by rw [wI_ne (by omega), wI_ne (by omega)]; exact g1 S h, fun S l h1 h2 => by rw [wI_ne (by omega)]; exact w2 S l h1 h2, fun l hl => by rw [wI_ne (by omega)]; exact w3 l hl, wI_at _ _ _ _⟩, fun c7 e126 c27 e120 => ?_⟩
          unfold f_X10_laysRounds_J64 f_X10_laysRounds_J114
          rw [sd_n (by omega) (by decide), Option.bind_some, v_pop10 G (by omega), Option.bind_some, if_neg (by rw [show (3 : Int32) = Int32.ofNat 3 from rfl, n_lt (by omega) (by omega)]; omega), ld_n (by omega) (by decide), Option.bind_some, wI_ne (by omega), g4, show (8 : Int32) = Int32.ofNat 8 from rfl, n_mul, n_add, ld_n (by omega) (by decide), Option.bind_some, wI_at, v_low (by omega) hG1, Option.bind_some, n_mul, n_add, ld_n (by omega) (by decide), Option.bind_some, wI_ne (by omega), hCm k (lwt G) hk l8, n_add, v_less hrI (by omega), Option.bind_some, sd_n (by omega) (by decide), Option.bind_some, ← hs, show Int32.ofNat k + 1 = Int32.ofNat (k + 1) from n_add k 1]
        · have hs : rdr c n t' G (k + 1) = rdr c n t' G k := by
            show (if 3 ≤ pop G then _ else _) = _
            rw [if_neg z]
            cases k with
            | zero => rfl
            | succ k => show _ = (if 3 ≤ pop G then _ else _); rw [if_neg z]
          refine ⟨hm_wI m1 200 (8 * G + k) (Int32.ofNat (v k)), ⟨f8, fun S h => by rw [wI_ne (by omega)]; exact g1 S h, w2, w3, by rw [wI_ne (by omega), hs]; exact g4⟩, fun c7 e126 c27 e120 => ?_⟩
          unfold f_X10_laysRounds_J64 f_X10_laysRounds_J114
          rw [sd_n (by omega) (by decide), Option.bind_some, v_pop10 G (by omega), Option.bind_some, if_pos (by rw [show (3 : Int32) = Int32.ofNat 3 from rfl, n_lt (by omega) (by omega)]; omega), show Int32.ofNat k + 1 = Int32.ofNat (k + 1) from n_add k 1]
      obtain ⟨m2, j1, j2⟩ := J
      refine ⟨_, m2, ⟨rfl, j1⟩, fun κ F => ?_⟩
      show f_X10_laysRounds_L27 _ _ _ _ _ _ _ = _
      rw [f_X10_laysRounds_L27, v_mny, n54, Option.bind_some, if_neg (by rw [n_le (by omega) (by omega)]; omega), v_isIn (by omega) (by omega), Option.bind_some, show (8 : Int32) = Int32.ofNat 8 from rfl, n_mul, n_add]
      cases hb : G.testBit k with
      | false =>
        have ev : v k = 1000000 := by
          rw [← hv]
          exact if_neg (by rw [hb]; decide)
        rw [if_pos (show zb false = 0 from rfl), show (1000000 : Int32) = Int32.ofNat (v k) by rw [ev]; rfl, j2]
      | true =>
        have hx := xor_lt hb
        have ev : v k = (if k = lwt G then (if G = 2 ^ k then 0 else 1000000) else mn (fun p => if p ≠ k ∧ G.testBit p = true then rop false (t (G ^^^ 2 ^ k) p) (c p k) else 1000000) n) := by
          rw [← hv]
          exact if_pos hb
        rw [if_neg (show ¬ zb true = 0 by decide), v_path (t := t) hn n54 hCm hc hG hG1 hk hb (fun p hp hx1 => by
          have q := (hP (G ^^^ 2 ^ k) hx1 hx).2 p hp
          rw [g2 _ p (by omega) (by omega)]
          exact ⟨q.1, q.2.1⟩), Option.bind_some, ← ev, j2]
    · obtain ⟨rfl, f, -⟩ := hI
      show f_X10_laysRounds_L27 _ _ _ _ _ _ _ = _
      rw [f_X10_laysRounds_L27, v_mny, show m1.1 181 54 = Int32.ofNat n by rw [f.2 _ _ (by omega) (by omega)]; exact h54, Option.bind_some, if_pos (by rw [n_le (by omega) (by omega)]; omega)]
  obtain ⟨y', m1, ⟨-, f, g1, g2, g3, g4⟩, he⟩ := lp
  refine ⟨m1, t', ⟨fun S hS1 hS => ?_, f⟩, fun c7 e126 e120 => he (c7, e126, e120)⟩
  have rx : ∀ S P, S ≠ G → rdr c n t' S P = rdr c n t S P := fun S P h => by
    induction P with
    | zero => rfl
    | succ P ih => show (if 3 ≤ pop S then _ else _) = (if 3 ≤ pop S then _ else _); rw [ih, tO S P h]
  by_cases e : S = G
  · subst e
    refine ⟨g4, fun l hl => ⟨by rw [tG]; exact g3 l hl, by rw [tG]; exact vI l, ?_⟩⟩
    unfold EQt
    rw [tG, ← hv]
    refine ⟨fun hb => if_neg (by rw [hb]; decide), fun hb => ?_⟩
    have hle := low_eq (by omega) hS1 hb
    have hx := xor_lt hb
    show (S = 2 ^ l → (if S.testBit l = true then _ else _) = 0) ∧ (S ≠ 2 ^ l → lowB S l → (if S.testBit l = true then _ else _) = 1000000) ∧ (¬ lowB S l → (if S.testBit l = true then _ else _) = _)
    rw [if_pos hb]
    refine ⟨fun z => ?_, fun z1 z2 => ?_, fun z => ?_⟩
    · have : lowB S l := fun x hx => by rw [z, Nat.testBit_two_pow]; exact decide_eq_false (by omega)
      rw [if_pos (hle.1 this), if_pos z]
    · rw [if_pos (hle.1 z2), if_neg z1]
    · rw [if_neg fun q => z (hle.2 q)]
      refine mn_cg fun p hp => ?_
      rw [tO _ p (by omega)]
  · obtain ⟨p1, p2⟩ := hP S hS1 (by omega)
    refine ⟨by rw [g1 S e, rx S n e]; exact p1, fun l hl => ?_⟩
    obtain ⟨q1, q2, q3⟩ := p2 l hl
    refine ⟨by rw [g2 S l e (by omega), tO S l e]; exact q1, by rw [tO S l e]; exact q2, ?_⟩
    unfold EQt at q3 ⊢
    rw [tO S l e]
    refine ⟨q3.1, fun hb => ⟨(q3.2 hb).1, (q3.2 hb).2.1, fun z => ?_⟩⟩
    rw [(q3.2 hb).2.2 z]
    have hx := xor_lt hb
    refine mn_cg fun p hp => ?_
    rw [tO _ p (by omega)]
theorem v_rounds {μ : hm_M} {L : List pc_K} (hn : n ≤ 8) (h0 : μ.1 181 54 = Int32.ofNat n) (hR : bR (μ.1 181)) (hL : FL (μ.1 181) L) : ∃ m t, f_X10_laysRounds μ = some m ∧ PTm m n (2 ^ n) (dC 0 L (μ.1 181)) t ∧ m.2 = μ.2 ∧ ∀ a j, a ≠ 191 → ¬ (a = 179 ∧ 22 ≤ j ∧ j ≤ 25) → a ≠ 196 → a ≠ 200 → a ≠ 201 → m.1 a j = μ.1 a j := by
  have h256 := p256 hn
  have hp1 : 1 ≤ 2 ^ n := Nat.one_le_two_pow
  obtain ⟨m3, c1, c2, c3⟩ := v_costs (L := L) false hn h0 hR hL
  have c2 : CRd m3 n (dC 0 L (μ.1 181)) := c2
  unfold f_X10_laysRounds
  rw [show f_X10_laysCosts 0 μ = _ from c1, Option.bind_some]
  refine lo2 (L := f_X10_laysRounds_L7 (fun m => some m)) (fun k y m1 => y = Int32.ofNat (1 + k) ∧ fP m3 m1 ∧ ∃ t, PTm m1 n (1 + k) (dC 0 L (μ.1 181)) t) (fun o => ∃ m t, o = some m ∧ PTm m n (2 ^ n) (dC 0 L (μ.1 181)) t ∧ m.2 = μ.2 ∧ ∀ a j, a ≠ 191 → ¬ (a = 179 ∧ 22 ≤ j ∧ j ≤ 25) → a ≠ 196 → a ≠ 200 → a ≠ 201 → m.1 a j = μ.1 a j) (2 ^ n - 1) (fun k y m1 hk hI => Or.inl ?_) (fun y m1 hI F => ?_) (fu_lt (by omega)) ⟨rfl, fP_refl m3, fun _ _ => 0, fun S h1 h2 => by omega⟩
  · obtain ⟨rfl, f, t, P⟩ := hI
    have n54 : m1.1 181 54 = Int32.ofNat n := by rw [f.2 _ _ (by omega) (by omega), c3.2 _ _ (by omega) (by omega) (by omega)]; exact h0
    obtain ⟨m2, t', ⟨q1, q2⟩, q3⟩ := v_L27 (m := hm_wI m1 201 (1 + k) 1000000) (t := t) (G := 1 + k) (c := dC 0 L (μ.1 181)) hn (by rw [wI_ne (by omega)]; exact n54) (fun a b ha hb => by rw [wI_ne (by omega), f.2 _ _ (by omega) (by omega)]; exact c2 a b ha hb) (dC_c9 hR) (by omega) (by omega) (fun S h1 h2 => by
      obtain ⟨p1, p2⟩ := P S h1 h2
      refine ⟨by rw [wI_ne (by omega)]; exact p1, fun l hl => ?_⟩
      rw [wI_ne (by omega)]
      exact p2 l hl) (wI_at _ _ _ _)
    refine ⟨_, m2, ⟨rfl, fP_trans (fP_w f (by omega) _ _) q2, t', q1⟩, fun F => ?_⟩
    rw [f_X10_laysRounds_L7, v_mny, n54, Option.bind_some, n_shl n (by omega), if_neg (by rw [n_le (by omega) (by omega)]; omega), sd_n (by omega) (by decide), Option.bind_some, show (0 : Int32) = Int32.ofNat 0 from rfl, q3, show Int32.ofNat (1 + k) + 1 = Int32.ofNat (1 + (k + 1)) from n_add _ 1]
  · obtain ⟨rfl, f, t, P⟩ := hI
    have n54 : m1.1 181 54 = Int32.ofNat n := by rw [f.2 _ _ (by omega) (by omega), c3.2 _ _ (by omega) (by omega) (by omega)]; exact h0
    refine ⟨m1, t, ?_, by rw [show 1 + (2 ^ n - 1) = 2 ^ n by omega] at P; exact P, f.1.trans c3.1, fun a j z1 z2 z3 z4 z5 => by rw [f.2 a j z4 z5]; exact c3.2 a j z1 z2 z3⟩
    rw [f_X10_laysRounds_L7, v_mny, n54, Option.bind_some, n_shl n (by omega), if_pos (by rw [n_le (by omega) (by omega)]; omega)]
end
