section
/-! What the component tells of the best ring. -/
variable {m : hm_M} {n : Nat} {tb : tbl} {w : Bool} {c : Nat → Nat → Nat}
def t1 (tb : tbl) (S l : Nat) : Nat := (tb S l).1
theorem of2_1 (q : Nat × Nat) (s x : Nat) : (of2 q s x).1 = min q.1 s := by
  unfold of2
  split
  · show s = _; omega
  · split
    · show q.1 = _; omega
    · omega
theorem fOf_mn {G l : Nat} : ∀ {P : Nat}, (fOf w c tb G l (1000000, 0) P).1 = mn (fun p => if (tb G p).1 < 1000000 ∧ c p l < 1000000 then rop w (tb G p).1 (c p l) else 1000000) P
  | 0 => rfl
  | P + 1 => by
    have hI := mn_I (fun p => if (tb G p).1 < 1000000 ∧ c p l < 1000000 then rop w (tb G p).1 (c p l) else 1000000) P
    show _ = min (mn _ P) (if (tb G P).1 < 1000000 ∧ c P l < 1000000 then rop w (tb G P).1 (c P l) else 1000000)
    rw [fOf_s]
    split
    · rw [of2_1, fOf_mn]
    · rw [fOf_mn]
      omega
/-- the costs, whole -/
def cc8 (c : Nat → Nat → Nat) (a b : Nat) : Nat := if a < 8 ∧ b < 8 then c a b else 1000000
theorem cc8_I (hc : c9 c) (a b : Nat) : cc8 c a b ≤ 1000000 := by
  unfold cc8
  split
  · rename_i h
    have := hc a b h.1 h.2
    omega
  · omega
theorem cc8_s (hs : ∀ a b, c a b = c b a) (a b : Nat) : cc8 c a b = cc8 c b a := by
  unfold cc8
  by_cases h : a < 8 ∧ b < 8
  · rw [if_pos h, if_pos ⟨h.2, h.1⟩, hs]
  · rw [if_neg h, if_neg fun z => h ⟨z.2, z.1⟩]
theorem INV_TB (hn : n ≤ 8) (hc : c9 c) (h1 : ∀ S l, S < 2 ^ n → l < n → (tb S l).1 ≤ 1000000) (h : INV w c n (2 ^ n) tb) : TB w (cc8 c) n (t1 tb) := by
  intro S l hS hl hb
  obtain ⟨i1, i2, i3, i4, i5⟩ := h S l hS hl
  refine ⟨fun z => ?_, fun z1 z2 => ?_, fun z => ?_⟩
  · show (tb S l).1 = 0
    rw [i2 z]
  · show (tb S l).1 = _
    rw [i3 hb z1 z2]
  · have hx : S ^^^ 2 ^ l < 2 ^ n := Nat.xor_lt_two_pow hS (Nat.pow_lt_pow_right (by decide) hl)
    show (tb S l).1 = _
    rw [i4 hb z, if_pos hx, fOf_mn]
    refine mn_cg fun p hp => ?_
    have hpl : cc8 c p l = c p l := if_pos ⟨by omega, by omega⟩
    have hcp := hc p l (by omega) (by omega)
    have ht := h1 _ p hx hp
    by_cases y : p ≠ l ∧ S.testBit p = true
    · rw [if_pos y, hpl]
      by_cases y2 : (tb (S ^^^ 2 ^ l) p).1 < 1000000 ∧ c p l < 1000000
      · rw [if_pos y2]; rfl
      · rw [if_neg y2]
        by_cases y3 : (tb (S ^^^ 2 ^ l) p).1 < 1000000
        · have : c p l = 1000000 := by omega
          rw [this, rop_cm, rop_I (show t1 tb (S ^^^ 2 ^ l) p ≤ 1000000 from ht)]
        · have : t1 tb (S ^^^ 2 ^ l) p = 1000000 := by show (tb _ _).1 = _; omega
          rw [this, rop_I (by omega)]
    · rw [if_neg y, if_neg]
      rintro ⟨y2, -⟩
      have hbit : (S ^^^ 2 ^ l).testBit p = false := by
        rw [bit_xp]
        by_cases e : p = l
        · subst e; rw [hb]; simp
        · have : S.testBit p = false := by
            cases q : S.testBit p
            · rfl
            · exact absurd ⟨e, q⟩ y
          rw [this]
          simp [e]
      rw [(h _ p hx hp).1 hbit] at y2
      omega
/-- what the best ring of a group costs -/
def rdc (w : Bool) (c : Nat → Nat → Nat) (n : Nat) (t : Nat → Nat → Nat) (S : Nat) : Nat := if 3 ≤ pop S then mn (fun l => if lwt S < l then rop w (t S l) (c l (lwt S)) else 1000000) n else 1000000
theorem v_cB {a b : Nat} (hn : n ≤ 8) (hC : CT m n c) (ha : a < n) (hb : b < n) (hab : a ≠ b) : f_X0_costBetween (Int32.ofNat a) (Int32.ofNat b) m = some (cm (c a b)) := by
  unfold f_X0_costBetween
  rw [show (8 : Int32) = Int32.ofNat 8 from rfl, n_mul, n_add, ld_n (by omega) (by decide), Option.bind_some, hC a b ha hb hab]
theorem v_lT {S l : Nat} (hn : n ≤ 8) (hM : MT m n tb) (hS : S < 2 ^ n) (hl : l < n) : f_X0_leastTo (Int32.ofNat S) (Int32.ofNat l) m = some (Int32.ofNat (t1 tb S l)) := by
  have h256 := p256 hn
  unfold f_X0_leastTo
  rw [show (8 : Int32) = Int32.ofNat 8 from rfl, n_mul, n_add, ld_n (by omega) (by decide), Option.bind_some, (hM S l hS hl).1]
  rfl
/-- not capped -/
def rup (w : Bool) (a b : Nat) : Nat := if w = true then max a b else a + b
theorem v_tg {a b : Nat} (h6 : m.1 145 6 = zb w) (ha : a + b ≤ 5000000) : f_X0_together (Int32.ofNat a) (Int32.ofNat b) m = some (Int32.ofNat (rup w a b)) := by
  unfold f_X0_together rup
  rw [h6]
  cases w
  · rw [if_pos (show zb false = 0 from rfl), n_add]
    simp only [Bool.false_eq_true, if_false]
  · rw [if_neg (show ¬ zb true = 0 by decide)]
    simp only [if_true]
    by_cases z : a < b
    · rw [if_pos (by rw [n_lt (by omega) (by omega)]; exact z), Nat.max_eq_right (by omega)]
    · rw [if_neg (by rw [n_lt (by omega) (by omega)]; exact z), Nat.max_eq_left (by omega)]
theorem rup_r {a b : Nat} (ha : a ≤ 1000000) (hb : b ≤ 1000000) : rop w a b = min 1000000 (rup w a b) ∧ rup w a b ≤ a + b := by
  unfold rop rup
  cases w
  · exact ⟨rfl, Nat.le_refl _⟩
  · show max a b = min 1000000 (max a b) ∧ max a b ≤ a + b
    omega
theorem v_lC {S l lo : Nat} (hn : n ≤ 8) (h6 : m.1 145 6 = zb w) (hC : CT m n c) (hc : c9 c) (hM : MT m n tb) (hS : S < 2 ^ n) (hl : l < n) (hlo : lo < n) (hne : l ≠ lo) : ∃ v, f_X0_leastClosed (Int32.ofNat S) (Int32.ofNat lo) (Int32.ofNat l) m = some (Int32.ofNat v) ∧ min 1000000 v = rop w (t1 tb S l) (c l lo) ∧ v ≤ 2000000 := by
  have h1 := (hM S l hS hl).2.2
  have h1 : t1 tb S l ≤ 1000000 := h1
  have h2 := hc l lo (by omega) (by omega)
  unfold f_X0_leastClosed
  rw [v_cB hn hC hl hlo hne, Option.bind_some]
  by_cases z : c l lo = 1000000
  · rw [if_pos (by rw [cm_n h2]; exact z), z, rop_cm, rop_I h1]
    exact ⟨1000000, rfl, by decide, by decide⟩
  · rw [if_neg (by rw [cm_n h2]; exact z), v_lT hn hM hS hl, Option.bind_some, show cm (c l lo) = Int32.ofNat (c l lo) from if_neg z, v_tg h6 (by omega), Option.bind_some]
    have := rup_r (w := w) h1 (show c l lo ≤ 1000000 by omega)
    exact ⟨_, rfl, this.1.symm, by omega⟩
theorem v_lr {S : Nat} (hn : n ≤ 8) (h5 : m.1 145 5 = Int32.ofNat n) (h6 : m.1 145 6 = zb w) (hC : CT m n c) (hc : c9 c) (hM : MT m n tb) (hS : S < 2 ^ n) : f_X0_leastRound (Int32.ofNat S) m = some (cm (rdc w c n (t1 tb) S)) := by
  have h256 := p256 hn
  have hp8 := pop_le S (by omega)
  unfold f_X0_leastRound rdc
  rw [v_popJ S (by omega), Option.bind_some]
  by_cases z : 3 ≤ pop S
  · have hS1 : 1 ≤ S := by
      rcases Nat.eq_zero_or_pos S with q | q
      · rw [q] at z; exact absurd z (by decide)
      · exact q
    obtain ⟨lp1, lp2⟩ := lwt_p S (by omega) hS1
    have hGl : lwt S < n := by
      rcases Nat.lt_or_ge (lwt S) n with z | z
      · exact z
      · have := Nat.testBit_lt_two_pow (Nat.lt_of_lt_of_le hS (Nat.pow_le_pow_right (by decide) z))
        rw [lp1] at this
        cases this
    rw [if_pos (by rw [show (3 : Int32) = Int32.ofNat 3 from rfl, n_le (by omega) (by omega)]; exact z), v_ntz S (by omega) hS1, Option.bind_some, if_pos z, show (1 : Int32) = Int32.ofNat 1 from rfl, n_add]
    have e0 : mn (fun l => if lwt S < l then rop w (t1 tb S l) (c l (lwt S)) else 1000000) (lwt S + 1) = 1000000 := by
      have : ∀ P, P ≤ lwt S + 1 → mn (fun l => if lwt S < l then rop w (t1 tb S l) (c l (lwt S)) else 1000000) P = 1000000 := by
        intro P
        induction P with
        | zero => intro _; rfl
        | succ P ih =>
          intro hP
          show min (mn _ P) (if lwt S < P then rop w (t1 tb S P) (c P (lwt S)) else 1000000) = _
          rw [ih (by omega), if_neg (by omega)]
          rfl
      exact this _ (Nat.le_refl _)
    refine lo3 (L := f_X0_leastRound_L23 (Int32.ofNat S) (Int32.ofNat (lwt S)) (fun z6_3 μz6 => (if (1000000 : Int32) ≤ z6_3 then some (-1 : Int32) else some z6_3))) (fun k y1 y2 m1 => y1 = Int32.ofNat (mn (fun l => if lwt S < l then rop w (t1 tb S l) (c l (lwt S)) else 1000000) (lwt S + 1 + k)) ∧ y2 = Int32.ofNat (lwt S + 1 + k) ∧ m1 = m) (fun o => o = _) (n - (lwt S + 1)) (fun k y1 y2 m1 hk hI => Or.inl ?_) (fun y1 y2 m1 hI F => ?_) (fu_lt (by omega)) ⟨by rw [Nat.add_zero, e0]; rfl, rfl, rfl⟩
    · obtain ⟨rfl, rfl, rfl⟩ := hI
      have hI := mn_I (fun l => if lwt S < l then rop w (t1 tb S l) (c l (lwt S)) else 1000000) (lwt S + 1 + k)
      obtain ⟨v, q1, q2, q3⟩ := v_lC hn h6 hC hc hM hS (show lwt S + 1 + k < n by omega) hGl (by omega)
      refine ⟨_, _, m1, ⟨rfl, rfl, rfl⟩, fun F => ?_⟩
      rw [f_X0_leastRound_L23, h5, if_neg (by rw [n_le (by omega) (by omega)]; omega), q1, Option.bind_some, Option.bind_some, show Int32.ofNat (lwt S + 1 + k) + 1 = Int32.ofNat (lwt S + 1 + (k + 1)) from n_add _ 1]
      congr 1
      have e : mn (fun l => if lwt S < l then rop w (t1 tb S l) (c l (lwt S)) else 1000000) (lwt S + 1 + (k + 1)) = min (mn (fun l => if lwt S < l then rop w (t1 tb S l) (c l (lwt S)) else 1000000) (lwt S + 1 + k)) (rop w (t1 tb S (lwt S + 1 + k)) (c (lwt S + 1 + k) (lwt S))) := by
        show min (mn _ (lwt S + 1 + k)) (if lwt S < lwt S + 1 + k then _ else _) = _
        rw [if_pos (by omega)]
        rfl
      rw [e]
      by_cases y : v < mn (fun l => if lwt S < l then rop w (t1 tb S l) (c l (lwt S)) else 1000000) (lwt S + 1 + k)
      · rw [if_pos (by rw [n_lt (by omega) (by omega)]; exact y)]
        congr 1
        omega
      · rw [if_neg (by rw [n_lt (by omega) (by omega)]; exact y)]
        congr 1
        omega
    · obtain ⟨rfl, rfl, rfl⟩ := hI
      have hI := mn_I (fun l => if lwt S < l then rop w (t1 tb S l) (c l (lwt S)) else 1000000) n
      rw [f_X0_leastRound_L23, h5, if_pos (by rw [n_le (by omega) (by omega)]; omega), show lwt S + 1 + (n - (lwt S + 1)) = n by omega]
      unfold cm
      by_cases y : mn (fun l => if lwt S < l then rop w (t1 tb S l) (c l (lwt S)) else 1000000) n = 1000000
      · rw [if_pos y, y, if_pos (by decide)]
      · rw [if_neg y, if_neg (by rw [show (1000000 : Int32) = Int32.ofNat 1000000 from rfl, n_le (by omega) (by omega)]; omega)]
  · rw [if_neg (by rw [show (3 : Int32) = Int32.ofNat 3 from rfl, n_le (by omega) (by omega)]; exact z), if_neg z]
    rfl
theorem v_evb (hn : n ≤ 8) (h5 : m.1 145 5 = Int32.ofNat n) : f_X0_everybody m = some (Int32.ofNat (2 ^ n - 1)) := by
  have hp1 : 1 ≤ 2 ^ n := Nat.one_le_two_pow
  unfold f_X0_everybody
  rw [h5, n_shl n (by omega), show (1 : Int32) = Int32.ofNat 1 from rfl, n_sub hp1]
theorem v_wh {U l : Nat} (hn : n ≤ 8) (h5 : m.1 145 5 = Int32.ofNat n) (hU : U < 2 ^ n) (hl : l < n) : f_X0_wayHome (Int32.ofNat U) (Int32.ofNat l) m = some (Int32.ofNat (wh n U l)) ∧ wh n U l < 2 ^ n := by
  have h256 := p256 hn
  have hp1 : 1 ≤ 2 ^ n := Nat.one_le_two_pow
  have hlt : wh n U l < 2 ^ n := lt_two fun x hx => by
    rw [wh_bit] at hx
    simp only [Bool.or_eq_true, Bool.and_eq_true, decide_eq_true_eq] at hx
    omega
  refine ⟨?_, hlt⟩
  unfold f_X0_wayHome
  rw [v_evb hn h5, Option.bind_some, n_an (by omega) (by omega), show (1 : Int32) = Int32.ofNat 1 from rfl]
  have e : (2 ^ n - 1) &&& (U ^^^ 255) = (2 ^ n - 1) &&& (U ^^^ (2 ^ n - 1)) := Nat.eq_of_testBit_eq fun x => by
    rw [Nat.testBit_and, Nat.testBit_and, Nat.testBit_xor, Nat.testBit_xor, Nat.testBit_two_pow_sub_one, show (255 : Nat) = 2 ^ 8 - 1 from rfl, Nat.testBit_two_pow_sub_one]
    by_cases z : x < n
    · rw [decide_eq_true z, decide_eq_true (show x < 8 by omega)]
    · rw [decide_eq_false z]; simp
  have a1 : (2 ^ n - 1) &&& (U ^^^ (2 ^ n - 1)) < 256 := Nat.lt_of_le_of_lt Nat.and_le_left (by omega)
  have a2 : ((2 ^ n - 1) &&& (U ^^^ (2 ^ n - 1))) ||| 1 < 256 := Nat.or_lt_two_pow (n := 8) a1 (by decide)
  rw [e, n_or a1 (by decide), show (Int32.ofNat 1 : Int32) = 1 from rfl, n_shl l (by omega), n_or a2 (p2_lt (by omega))]
  rfl
theorem v_first {U l s B k p : Nat} (hn : n ≤ 8) (h5 : m.1 145 5 = Int32.ofNat n) (h6 : m.1 145 6 = zb w) (hC : CT m n c) (hc : c9 c) (hs : ∀ a b, c a b = c b a) (hM : MT m n tb) (hT : TB w (cc8 c) n (t1 tb)) (hB : B < 1000000) (hs9 : s ≤ 900000) (hU : U < 2 ^ n) (hU0 : U.testBit 0 = true) (hl : l < n) (hUl : U.testBit l = true) (hk : cn (free U) n = k + 1) (hp : p < n ∧ free U p = true ∧ rop w (rop w s (cc8 c l p)) (Hc w (cc8 c) n k (U ||| 2 ^ p) p) ≤ B) (hf : ∀ x, x < p → free U x = true → B < rop w (rop w s (cc8 c l x)) (Hc w (cc8 c) n k (U ||| 2 ^ x) x)) : f_X0_firstNext (Int32.ofNat U) (Int32.ofNat l) (Int32.ofNat s) (Int32.ofNat B) m = some (Int32.ofNat p) := by
  have h256 := p256 hn
  have fr : ∀ x, free U x = true ↔ x ≠ 0 ∧ U.testBit x = false := fun x => by
    unfold free
    simp only [Bool.and_eq_true, decide_eq_true_eq, Bool.not_eq_true']
  have hp0 := (fr p).1 hp.2.1
  -- one step
  have st : ∀ F x (e83 : hm_M → Option Int32), 1 ≤ x → x < n → f_X0_firstNext_L3 (Int32.ofNat U) (Int32.ofNat l) (Int32.ofNat s) (Int32.ofNat B) e83 (F + 1) (Int32.ofNat x) m = if free U x = true ∧ rop w (rop w s (cc8 c l x)) (Hc w (cc8 c) n k (U ||| 2 ^ x) x) ≤ B then some (Int32.ofNat x) else f_X0_firstNext_L3 (Int32.ofNat U) (Int32.ofNat l) (Int32.ofNat s) (Int32.ofNat B) e83 F (Int32.ofNat (x + 1)) m := by
    intro F x e83 hx1 hx
    rw [f_X0_firstNext_L3, h5, if_neg (by rw [n_le (by omega) (by omega)]; omega)]
    unfold f_X0_firstNext_J77
    rw [n_bit U (by omega) x (by omega), n_shl x (by omega), n_or (by omega) (p2_lt (by omega)), show Int32.ofNat x + 1 = Int32.ofNat (x + 1) from n_add _ 1]
    by_cases hxf : free U x = true
    · have hx0 := (fr x).1 hxf
      have hne : l ≠ x := fun z => by rw [← z, hUl] at hx0; cases hx0.2
      have hcx : cc8 c l x = c l x := if_pos ⟨by omega, by omega⟩
      have h9 := hc l x (by omega) (by omega)
      have hUx := or_lt hU hx
      obtain ⟨w1, w2⟩ := v_wh (m := m) hn h5 hUx hx
      have hH : t1 tb (wh n (U ||| 2 ^ x) x) x = Hc w (cc8 c) n k (U ||| 2 ^ x) x := TB_H hT (cc8_s hs) (cc8_I hc) (by rw [bit_or, hU0]; rfl) (by rw [bit_or]; simp) hx0.1 hx (by
        have := cn_del hxf hx
        have e : cn (free (U ||| 2 ^ x)) n = cn (fun y => free U y && decide (y ≠ x)) n := cn_cg fun y _ => free_or
        omega)
      have hHI := Hc_I (w := w) (n := n) (cc8_I hc) k (U ||| 2 ^ x) x
      rw [v_cB hn hC hl hx hne, Option.bind_some, hx0.2, if_pos (show zb false = 0 from rfl)]
      by_cases hI : c l x = 1000000
      · have e1 : rop w (rop w s (cc8 c l x)) (Hc w (cc8 c) n k (U ||| 2 ^ x) x) = 1000000 := by
          rw [hcx, hI, rop_cm w s, rop_I (show s ≤ 1000000 by omega), rop_I hHI]
        rw [if_pos (by rw [cm_n h9]; exact hI), if_neg (fun z => by have := z.2; rw [e1] at this; omega)]
      · have r1 := rup_r (w := w) (a := s) (b := c l x) (by omega) (by omega)
        have e1 : rup w s (c l x) = rop w s (c l x) := by omega
        have r2 := rup_r (w := w) (a := rop w s (c l x)) (b := Hc w (cc8 c) n k (U ||| 2 ^ x) x) (by omega) hHI
        rw [if_neg (by rw [cm_n h9]; exact hI), w1, Option.bind_some, v_lT hn hM w2 hx, Option.bind_some, hH, show cm (c l x) = Int32.ofNat (c l x) from if_neg hI, v_tg h6 (by omega), Option.bind_some, e1, v_tg h6 (by omega), Option.bind_some, hcx]
        by_cases y : B < rup w (rop w s (c l x)) (Hc w (cc8 c) n k (U ||| 2 ^ x) x)
        · rw [if_pos (by rw [n_lt (by omega) (by omega)]; exact y), if_neg (fun z => by have := z.2; omega)]
        · rw [if_neg (by rw [n_lt (by omega) (by omega)]; exact y), if_pos ⟨hxf, by omega⟩]
    · have hb : U.testBit x = true := by
        cases q : U.testBit x
        · exact absurd ((fr x).2 ⟨by omega, q⟩) hxf
        · rfl
      have hcb : ∃ v, f_X0_costBetween (Int32.ofNat l) (Int32.ofNat x) m = some v := by
        unfold f_X0_costBetween
        rw [show (8 : Int32) = Int32.ofNat 8 from rfl, n_mul, n_add, ld_n (by omega) (by decide), Option.bind_some]
        exact ⟨_, rfl⟩
      obtain ⟨v, hv⟩ := hcb
      rw [hv, Option.bind_some, hb, if_neg (show ¬ zb true = 0 by decide), if_neg (fun z => hxf z.1)]
  unfold f_X0_firstNext
  refine lo2 (L := f_X0_firstNext_L3 (Int32.ofNat U) (Int32.ofNat l) (Int32.ofNat s) (Int32.ofNat B) (fun μz7 => some (-1 : Int32))) (fun j y m1 => y = Int32.ofNat (1 + j) ∧ 1 + j ≤ p ∧ m1 = m) (fun o => o = some (Int32.ofNat p)) p (fun j y m1 hj hI => ?_) (fun y m1 hI F => ?_) (fu_lt (by omega)) ⟨rfl, by omega, rfl⟩
  · obtain ⟨rfl, h2, rfl⟩ := hI
    by_cases z : 1 + j = p
    · refine Or.inr fun F => ?_
      rw [st F (1 + j) _ (by omega) (by omega), z, if_pos hp.2]
    · refine Or.inl ⟨_, m1, ⟨rfl, by omega, rfl⟩, fun F => ?_⟩
      rw [st F (1 + j) _ (by omega) (by omega), if_neg]
      · rfl
      · rintro ⟨y1, y2⟩
        have := hf (1 + j) (by omega) y1
        omega
  · omega
theorem v_inL {B : Nat} (hn : n ≤ 8) (h5 : m.1 145 5 = Int32.ofNat n) (h6 : m.1 145 6 = zb w) (hC : CT m n c) (hc : c9 c) (hs : ∀ a b, c a b = c b a) (hM : MT m n tb) (hT : TB w (cc8 c) n (t1 tb)) (hB : B < 900000) (e87 : Int32 → hm_M → Option Int32) : ∀ (d kk i U l s : Nat) (g : List Nat) (F : Nat), Grd w (cc8 c) n B kk U l s g → d ≤ kk → d < F → i + d < 100 → U < 2 ^ n → U.testBit 0 = true → l < n → U.testBit l = true → cn (free U) n = kk → s ≤ B → f_X0_inRow_L25 (Int32.ofNat B) (Int32.ofNat (i + d)) e87 F (Int32.ofNat l) (Int32.ofNat U) (Int32.ofNat s) (Int32.ofNat i) m = e87 (Int32.ofNat ((l :: g).getD d 0)) m
  | 0, kk, i, U, l, s, g, F, hg, hd, hF, hi, hU, hU0, hl, hUl, hk, hsB => by
    obtain ⟨F, rfl⟩ : ∃ M, F = M + 1 := ⟨F - 1, by omega⟩
    rw [f_X0_inRow_L25, if_pos (by rw [n_le (by omega) (by omega)]; omega)]
    rfl
  | d + 1, 0, i, U, l, s, g, F, hg, hd, hF, hi, hU, hU0, hl, hUl, hk, hsB => by omega
  | d + 1, kk + 1, i, U, l, s, g, F, hg, hd, hF, hi, hU, hU0, hl, hUl, hk, hsB => by
    have h256 := p256 hn
    obtain ⟨F, rfl⟩ : ∃ M, F = M + 1 := ⟨F - 1, by omega⟩
    obtain ⟨p, q, rfl, ⟨g1, g2, g3⟩, g4, g5⟩ := hg
    have hpf := g2
    unfold free at hpf
    simp only [Bool.and_eq_true, decide_eq_true_eq, Bool.not_eq_true'] at hpf
    have nm : ∀ k : Nat, k < 8 → ¬ Int32.ofNat k = -1 := by decide +kernel
    have hne : l ≠ p := fun z => by rw [← z, hUl] at hpf; cases hpf.2
    have hcx : cc8 c l p = c l p := if_pos ⟨by omega, by omega⟩
    have h9 := hc l p (by omega) (by omega)
    have hHI := Hc_I (w := w) (n := n) (cc8_I hc) kk (U ||| 2 ^ p) p
    have hI : c l p ≠ 1000000 := fun z => by
      rw [hcx, z, rop_cm w s, rop_I (show s ≤ 1000000 by omega), rop_I hHI] at g3
      omega
    have r1 := rup_r (w := w) (a := s) (b := c l p) (by omega) (by omega)
    have e1 : rup w s (c l p) = rop w s (c l p) := by omega
    have hle : rop w s (c l p) ≤ B := by
      have : rop w s (cc8 c l p) ≤ rop w (rop w s (cc8 c l p)) (Hc w (cc8 c) n kk (U ||| 2 ^ p) p) := rop_ge (by rw [hcx]; omega)
      rw [hcx] at this g3
      omega
    rw [f_X0_inRow_L25, if_neg (by rw [n_le (by omega) (by omega)]; omega), if_neg (nm l (by omega)), v_first hn h5 h6 hC hc hs hM hT (by omega) (by omega) hU hU0 hl hUl hk ⟨g1, g2, g3⟩ g4, Option.bind_some, if_neg (nm p (by omega)), v_cB hn hC hl g1 hne, Option.bind_some, show cm (c l p) = Int32.ofNat (c l p) from if_neg hI, v_tg h6 (by omega), Option.bind_some, Option.bind_some, e1, n_shl p (by omega), n_or (by omega) (p2_lt (by omega))]
    unfold f_X0_inRow_J78
    rw [show Int32.ofNat i + 1 = Int32.ofNat (i + 1) from n_add i 1, show i + (d + 1) = i + 1 + d by omega]
    rw [hcx] at g5
    exact v_inL hn h5 h6 hC hc hs hM hT hB e87 d kk (i + 1) (U ||| 2 ^ p) p (rop w s (c l p)) q F g5 (by omega) (by omega) (by omega) (or_lt hU g1) (by rw [bit_or, hU0]; rfl) g1 (by rw [bit_or]; simp) (by
      have := cn_del g2 g1
      have e : cn (free (U ||| 2 ^ p)) n = cn (fun y => free U y && decide (y ≠ p)) n := cn_cg fun y _ => free_or
      omega) hle
end
