section
/-! The component's counts. -/
variable {m : hm_M} {n : Nat} {tb : tbl} {c : Nat → Nat → Nat}
theorem fOf_w {G l : Nat} : ∀ {P : Nat}, (∀ p, p < P → (tb G p).1 < 1000000 ∧ c p l < 1000000 → rop false (tb G p).1 (c p l) < 1000000) → (fOf false c tb G l (1000000, 0) P).2 = if (fOf false c tb G l (1000000, 0) P).1 < 1000000 then smf (fun p => if ((tb G p).1 < 1000000 ∧ c p l < 1000000) ∧ rop false (tb G p).1 (c p l) = (fOf false c tb G l (1000000, 0) P).1 then (tb G p).2 else 0) P else 0
  | 0, _ => by rw [if_neg (by show ¬ (1000000 : Nat) < 1000000; omega)]; rfl
  | P + 1, h => by
    have ih := fOf_w (G := G) (l := l) (P := P) fun p hp => h p (by omega)
    have hmn : ∀ p, p < P → (tb G p).1 < 1000000 ∧ c p l < 1000000 → (fOf false c tb G l (1000000, 0) P).1 ≤ rop false (tb G p).1 (c p l) := fun p hp hc => by
      rw [fOf_mn]
      have := mn_le (f := fun p => if (tb G p).1 < 1000000 ∧ c p l < 1000000 then rop false (tb G p).1 (c p l) else 1000000) hp
      simp only [if_pos hc] at this
      exact this
    have hqI : (fOf false c tb G l (1000000, 0) P).1 ≤ 1000000 := by rw [fOf_mn]; exact mn_I _ _
    rw [fOf_s]
    generalize fOf false c tb G l (1000000, 0) P = q at ih hmn hqI ⊢
    by_cases cd : (tb G P).1 < 1000000 ∧ c P l < 1000000
    · have hs := h P (by omega) cd
      rw [if_pos cd]
      generalize hsv : rop false (tb G P).1 (c P l) = s at hs ⊢
      unfold of2
      by_cases z : s < q.1
      · rw [if_pos z]
        show (tb G P).2 = if s < 1000000 then smf (fun p => if ((tb G p).1 < 1000000 ∧ c p l < 1000000) ∧ rop false (tb G p).1 (c p l) = s then (tb G p).2 else 0) P + (if ((tb G P).1 < 1000000 ∧ c P l < 1000000) ∧ rop false (tb G P).1 (c P l) = s then (tb G P).2 else 0) else 0
        rw [if_pos hs, if_pos ⟨cd, hsv⟩, smf_cg (g := fun _ => 0) fun p hp => if_neg fun y => by have := hmn p hp y.1; omega, smf_0, Nat.zero_add]
      · rw [if_neg z]
        by_cases y : s = q.1
        · rw [if_pos y]
          show q.2 + (tb G P).2 = if q.1 < 1000000 then smf (fun p => if ((tb G p).1 < 1000000 ∧ c p l < 1000000) ∧ rop false (tb G p).1 (c p l) = q.1 then (tb G p).2 else 0) P + (if ((tb G P).1 < 1000000 ∧ c P l < 1000000) ∧ rop false (tb G P).1 (c P l) = q.1 then (tb G P).2 else 0) else 0
          rw [if_pos (by omega), if_pos ⟨cd, by rw [hsv]; exact y⟩, ih, if_pos (by omega)]
        · rw [if_neg y]
          show q.2 = if q.1 < 1000000 then smf (fun p => if ((tb G p).1 < 1000000 ∧ c p l < 1000000) ∧ rop false (tb G p).1 (c p l) = q.1 then (tb G p).2 else 0) P + (if ((tb G P).1 < 1000000 ∧ c P l < 1000000) ∧ rop false (tb G P).1 (c P l) = q.1 then (tb G P).2 else 0) else 0
          rw [if_pos (by omega), if_neg (show ¬ (((tb G P).1 < 1000000 ∧ c P l < 1000000) ∧ rop false (tb G P).1 (c P l) = q.1) by rw [hsv]; exact fun w => y w.2), ih, if_pos (by omega), Nat.add_zero]
    · rw [if_neg cd, ih]
      by_cases z : q.1 < 1000000
      · rw [if_pos z, if_pos z]
        show _ = smf _ P + (if ((tb G P).1 < 1000000 ∧ c P l < 1000000) ∧ rop false (tb G P).1 (c P l) = q.1 then (tb G P).2 else 0)
        rw [if_neg fun w => cd w.1, Nat.add_zero]
      · rw [if_neg z, if_neg z]
theorem TB_W (hn : n ≤ 8) (hc : c9 c) (hs : ∀ a b, c a b = c b a) (h1 : ∀ S l, S < 2 ^ n → l < n → (tb S l).1 ≤ 1000000) (hV : INV false c n (2 ^ n) tb) : ∀ {k U l : Nat}, U.testBit 0 = true → U.testBit l = true → l ≠ 0 → l < n → cn (free U) n = k → Hc false (cc8 c) n k U l < 1000000 → (tb (wh n U l) l).2 = Wc (cc8 c) n k U l := by
  have h256 := p256 hn
  have hT := INV_TB hn hc h1 hV
  have main : ∀ {k U l : Nat}, U.testBit 0 = true → U.testBit l = true → l ≠ 0 → l < n → cn (free U) n = k → Hc false (cc8 c) n k U l < 1000000 → wh n U l ^^^ 2 ^ l < 2 ^ n ∧ (∀ x, (wh n U l ^^^ 2 ^ l).testBit x = ((decide (x < n) && !U.testBit x) || decide (x = 0))) ∧ (tb (wh n U l) l).2 = smf (fun p => if ((tb (wh n U l ^^^ 2 ^ l) p).1 < 1000000 ∧ c p l < 1000000) ∧ rop false (tb (wh n U l ^^^ 2 ^ l) p).1 (c p l) = Hc false (cc8 c) n k U l then (tb (wh n U l ^^^ 2 ^ l) p).2 else 0) n := by
    intro k U l h0 hl l0 ln hk hlt
    have hlt2 : wh n U l < 2 ^ n := lt_two fun x hx => by
      rw [wh_bit] at hx
      simp only [Bool.or_eq_true, Bool.and_eq_true, decide_eq_true_eq] at hx
      omega
    have hb : (wh n U l).testBit l = true := by rw [wh_bit]; simp
    have hx := xor_lt hb
    have nl : ¬ lowB (wh n U l) l := fun z => by
      have := z 0 (by omega)
      rw [wh_bit] at this
      simp at this
    have e4 := (hV (wh n U l) l hlt2 ln).2.2.2.1 hb nl
    rw [if_pos (by omega)] at e4
    have hH : t1 tb (wh n U l) l = Hc false (cc8 c) n k U l := TB_H hT (cc8_s hs) (cc8_I hc) h0 hl l0 ln hk
    have e1 : (fOf false c tb (wh n U l ^^^ 2 ^ l) l (1000000, 0) n).1 = Hc false (cc8 c) n k U l := by rw [← hH, ← e4]; rfl
    have w := fOf_w (tb := tb) (c := c) (G := wh n U l ^^^ 2 ^ l) (l := l) (P := n) fun p hp hcd => by
      have b1 := (hV (wh n U l ^^^ 2 ^ l) p (by omega) hp).2.2.2.2 hcd.1
      have b2 := hc p l (by omega) (by omega)
      rw [rop_f]
      omega
    rw [e1, if_pos hlt] at w
    refine ⟨by omega, fun x => ?_, ?_⟩
    · rw [bit_xp, wh_bit]
      by_cases y : x = l
      · subst y
        rw [hl]
        simp [l0]
      · simp [y]
    · rw [e4]
      exact w
  intro k
  induction k with
  | zero =>
    intro U l h0 hl l0 ln hk hlt
    obtain ⟨m1, m2, m3⟩ := main h0 hl l0 ln hk hlt
    have eW : Wc (cc8 c) n 0 U l = 1 := by
      show [[]].countP _ = 1
      rw [List.countP_cons_of_pos]
      · rfl
      · exact decide_eq_true rfl
    have hz : ∀ x, x < n → x ≠ 0 → U.testBit x = true := fun x hx hx0 => by
      have := cn_0 hk x hx
      unfold free at this
      rw [decide_eq_true hx0] at this
      simpa using this
    have eG : wh n U l ^^^ 2 ^ l = 2 ^ 0 := Nat.eq_of_testBit_eq fun x => by
      rw [m2, Nat.testBit_two_pow]
      by_cases y0 : x = 0
      · subst y0; simp
      · have y1 : ¬ 0 = x := fun q => y0 q.symm
        by_cases y : x < n
        · rw [hz x y y0]; simp [y0, y1]
        · simp [y, y0, y1]
    have t0 : tb (2 ^ 0) 0 = (0, 1) := (hV (2 ^ 0) 0 (Nat.pow_lt_pow_right (by decide) (by omega)) (by omega)).2.1 rfl
    have hI : Hc false (cc8 c) n 0 U l = c l 0 := by show cc8 c l 0 = _; exact if_pos ⟨by omega, by omega⟩
    rw [m3, eW, eG, smf_one (x := 0) fun p hp hne => ?_]
    · rw [if_pos (show 0 < n by omega), if_pos]
      · rw [t0]
      · rw [hI] at hlt ⊢
        rw [t0, rop_0 (by rw [hs]; omega), hs 0 l]
        exact ⟨⟨by decide, hlt⟩, rfl⟩
    · rw [if_neg]
      rintro ⟨⟨y, -⟩, -⟩
      rw [(hV (2 ^ 0) p (Nat.pow_lt_pow_right (by decide) (by omega)) hp).1 (by rw [Nat.testBit_two_pow]; exact decide_eq_false (by omega))] at y
      omega
  | succ k ih =>
    intro U l h0 hl l0 ln hk hlt
    obtain ⟨m1, m2, m3⟩ := main h0 hl l0 ln hk hlt
    rw [m3, Wc_s hlt]
    refine smf_cg fun p hp => ?_
    by_cases hf : free U p = true
    · have hf2 := hf
      unfold free at hf2
      simp only [Bool.and_eq_true, decide_eq_true_eq, Bool.not_eq_true'] at hf2
      have eG : wh n U l ^^^ 2 ^ l = wh n (U ||| 2 ^ p) p := Nat.eq_of_testBit_eq fun x => by
        rw [m2, wh_bit, bit_or]
        by_cases y : x = p
        · subst y
          rw [hf2.2, decide_eq_true hp]
          simp
        · simp [y]
      have hcn : cn (free (U ||| 2 ^ p)) n = k := by
        have := cn_del hf hp
        have e : cn (free (U ||| 2 ^ p)) n = cn (fun x => free U x && decide (x ≠ p)) n := cn_cg fun x _ => free_or
        omega
      have hH : t1 tb (wh n (U ||| 2 ^ p) p) p = Hc false (cc8 c) n k (U ||| 2 ^ p) p := TB_H hT (cc8_s hs) (cc8_I hc) (by rw [bit_or, h0]; rfl) (by rw [bit_or]; simp) hf2.1 hp hcn
      have hH' : (tb (wh n (U ||| 2 ^ p) p) p).1 = Hc false (cc8 c) n k (U ||| 2 ^ p) p := hH
      have hcl : cc8 c l p = c p l := by rw [show cc8 c l p = c l p from if_pos ⟨by omega, by omega⟩, hs]
      rw [eG, hH', hcl, rop_cm false (c p l)]
      by_cases y : rop false (Hc false (cc8 c) n k (U ||| 2 ^ p) p) (c p l) = Hc false (cc8 c) n (k + 1) U l
      · rw [rop_f] at y
        rw [if_pos ⟨⟨by omega, by omega⟩, by rw [rop_f]; exact y⟩, if_pos ⟨hf, by rw [rop_f]; exact y⟩]
        exact ih (by rw [bit_or, h0]; rfl) (by rw [bit_or]; simp) hf2.1 hp hcn (by omega)
      · rw [if_neg fun q => y q.2, if_neg fun q => y q.2]
    · rw [if_neg (show ¬ (free U p = true ∧ rop false (cc8 c l p) (Hc false (cc8 c) n k (U ||| 2 ^ p) p) = Hc false (cc8 c) n (k + 1) U l) from fun q => hf q.1), if_neg]
      rintro ⟨⟨y, -⟩, -⟩
      by_cases p0 : p = 0
      · subst p0
        have hne : wh n U l ^^^ 2 ^ l ≠ 2 ^ 0 := fun q => by
          have hz : cn (free U) n = cn (fun _ => false) n := cn_cg fun x hx => by
            have e := congrArg (fun q => q.testBit x) q
            simp only [m2] at e
            rw [Nat.testBit_two_pow, decide_eq_true hx] at e
            unfold free
            by_cases x0 : x = 0
            · subst x0; simp
            · have : ¬ 0 = x := fun z => x0 z.symm
              simp only [this, x0, decide_false, Bool.or_false, Bool.true_and] at e
              simp [e]
          have z0 : ∀ m, cn (fun _ => false) m = 0 := fun m => by
            induction m with
            | zero => rfl
            | succ m ih => show cn (fun _ => false) m + 0 = 0; omega
          rw [z0] at hz
          omega
        rw [(hV (wh n U l ^^^ 2 ^ l) 0 m1 hp).2.2.1 (by rw [m2]; simp) hne (fun x hx => absurd hx (Nat.not_lt_zero _))] at y
        omega
      · have hu : U.testBit p = true := by
          cases hu : U.testBit p
          · unfold free at hf
            rw [hu, decide_eq_true p0] at hf
            exact absurd rfl hf
          · rfl
        rw [(hV (wh n U l ^^^ 2 ^ l) p m1 hp).1 (by rw [m2, hu]; simp [p0])] at y
        omega
theorem len_rws (hn : n ≤ 8) : ∀ k U, (rws n k U).length ≤ 8 ^ k
  | 0, U => Nat.le_refl _
  | k + 1, U => by
    have key : ∀ P, P ≤ n → (cat (fun p => if free U p = true then (rws n k (U ||| 2 ^ p)).map (p :: ·) else []) P).length ≤ P * 8 ^ k := by
      intro P
      induction P with
      | zero => intro _; exact Nat.zero_le _
      | succ P ih =>
        intro hP
        show (cat _ P ++ _).length ≤ _
        rw [List.length_append, Nat.succ_mul]
        have := ih (by omega)
        have h2 : (if free U P = true then (rws n k (U ||| 2 ^ P)).map (P :: ·) else []).length ≤ 8 ^ k := by
          split
          · rw [List.length_map]; exact len_rws hn k _
          · exact Nat.zero_le _
        exact Nat.add_le_add this h2
    have h1 := key n (Nat.le_refl _)
    have h2 : n * 8 ^ k ≤ 8 * 8 ^ k := Nat.mul_le_mul_right _ hn
    rw [Nat.pow_succ, Nat.mul_comm (8 ^ k) 8]
    exact Nat.le_trans h1 h2
theorem v_cntR {k : Nat} (hn : n ≤ 8) (hk : n = k + 2) (h5 : m.1 145 5 = Int32.ofNat n) (h6 : m.1 145 6 = zb false) (hC : CT m n c) (hc : c9 c) (hs : ∀ a b, c a b = c b a) (hM : MT m n tb) (hV : INV false c n (2 ^ n) tb) (hlt : Hc false (cc8 c) n (k + 1) 1 0 < 1000000) : f_X0_countRounds (Int32.ofNat (Hc false (cc8 c) n (k + 1) 1 0)) m = some (Int32.ofNat (Wc (cc8 c) n (k + 1) 1 0 / 2)) := by
  have h256 := p256 hn
  have hp1 : 1 ≤ 2 ^ n := Nat.one_le_two_pow
  have hT := INV_TB hn hc (fun S l hS hl => (hM S l hS hl).2.2) hV
  unfold f_X0_countRounds
  have e0 := Wc_s hlt
  have hlen : Wc (cc8 c) n (k + 1) 1 0 ≤ 2097152 := by
    have h1 : Wc (cc8 c) n (k + 1) 1 0 ≤ (rws n (k + 1) 1).length := List.countP_le_length
    have h2 := len_rws hn (k + 1) 1
    have h3 : 8 ^ (k + 1) ≤ 8 ^ 7 := Nat.pow_le_pow_right (by decide) (by omega)
    have h4 : 8 ^ 7 = 2097152 := by decide
    omega
  rw [e0] at hlen ⊢
  generalize hB : Hc false (cc8 c) n (k + 1) 1 0 = B at hlt hlen ⊢
  generalize hf : (fun p => if free 1 p = true ∧ rop false (cc8 c 0 p) (Hc false (cc8 c) n k (1 ||| 2 ^ p) p) = B then Wc (cc8 c) n k (1 ||| 2 ^ p) p else 0) = f at hlen ⊢
  have f0 : f 0 = 0 := by rw [← hf]; rfl
  refine lo3 (L := f_X0_countRounds_L4 (Int32.ofNat B) (fun z6_2 μz6 => some (z6_2 / (2 : Int32)))) (fun i y2 y3 m1 => y2 = Int32.ofNat (smf f (1 + i)) ∧ y3 = Int32.ofNat (1 + i) ∧ m1 = m) (fun o => o = _) (n - 1) (fun i y2 y3 m1 hi hI => Or.inl ?_) (fun y2 y3 m1 hI F => ?_) (fu_lt (by omega)) ⟨by show (0 : Int32) = Int32.ofNat (0 + f 0); rw [f0]; rfl, rfl, rfl⟩
  · obtain ⟨rfl, rfl, rfl⟩ := hI
    have hp : 1 + i < n := by omega
    obtain ⟨v, q1, q2, q3⟩ := v_lC (l := 1 + i) (lo := 0) hn h6 hC hc hM (show 2 ^ n - 1 < 2 ^ n by omega) hp (by omega) (by omega)
    have hfp : free 1 (1 + i) = true := by rw [free_1]; exact decide_eq_true (by omega)
    have hcn : cn (free (1 ||| 2 ^ (1 + i))) n = k := by
      have := cn_del hfp hp
      have e : cn (free (1 ||| 2 ^ (1 + i))) n = cn (fun x => free 1 x && decide (x ≠ 1 + i)) n := cn_cg fun x _ => free_or
      have := (all_p n hn).2.2
      omega
    have hH : t1 tb (wh n (1 ||| 2 ^ (1 + i)) (1 + i)) (1 + i) = Hc false (cc8 c) n k (1 ||| 2 ^ (1 + i)) (1 + i) := TB_H hT (cc8_s hs) (cc8_I hc) (by rw [bit_or]; rfl) (by rw [bit_or]; simp) (by omega) hp hcn
    have hcl : cc8 c 0 (1 + i) = c (1 + i) 0 := by rw [show cc8 c 0 (1 + i) = c 0 (1 + i) from if_pos ⟨by omega, by omega⟩, hs]
    have hwa := wh_all (n := n) hp
    rw [hwa] at hH
    have ef : f (1 + i) = if v = B then (tb (2 ^ n - 1) (1 + i)).2 else 0 := by
      rw [← hf]
      show (if free 1 (1 + i) = true ∧ rop false (cc8 c 0 (1 + i)) (Hc false (cc8 c) n k (1 ||| 2 ^ (1 + i)) (1 + i)) = B then _ else _) = _
      rw [hcl, rop_cm, ← hH, ← q2]
      by_cases y : v = B
      · rw [if_pos y, if_pos ⟨hfp, by omega⟩]
        have := TB_W hn hc hs (fun S l hS hl => (hM S l hS hl).2.2) hV (k := k) (U := 1 ||| 2 ^ (1 + i)) (l := 1 + i) (by rw [bit_or]; rfl) (by rw [bit_or]; simp) (by omega) hp hcn (by
          rw [← hH]
          have e2 := q2
          rw [rop_f] at e2
          have : t1 tb (2 ^ n - 1) (1 + i) ≤ 1000000 := (hM (2 ^ n - 1) (1 + i) (by omega) hp).2.2
          omega)
        rw [hwa] at this
        exact this.symm
      · rw [if_neg y, if_neg fun w => by have := w.2; omega]
    refine ⟨_, _, m1, ⟨rfl, rfl, rfl⟩, fun F => ?_⟩
    have es : smf f (1 + (i + 1)) = smf f (1 + i) + f (1 + i) := rfl
    rw [f_X0_countRounds_L4, h5, if_neg (by rw [n_le (by omega) (by omega)]; omega), if_neg (show ¬ Int32.ofNat B = -1 by rw [i_eq, n_toInt (by omega)]; show ¬ ((B : Nat) : Int) = -1; omega), v_evb hn h5, Option.bind_some, show (0 : Int32) = Int32.ofNat 0 from rfl, q1, Option.bind_some, es, ef]
    unfold f_X0_countRounds_J48
    rw [show Int32.ofNat (1 + i) + 1 = Int32.ofNat (1 + (i + 1)) from n_add _ 1]
    by_cases y : v = B
    · rw [if_pos (by rw [y]), Option.bind_some, show (8 : Int32) = Int32.ofNat 8 from rfl, n_mul, n_add, ld_n (by omega) (by decide), Option.bind_some, (hM (2 ^ n - 1) (1 + i) (by omega) hp).2.1, n_add, if_pos y]
    · rw [if_neg (by rw [n_eq (by omega) (by omega)]; exact y), if_neg y]
      rfl
  · obtain ⟨rfl, rfl, rfl⟩ := hI
    rw [f_X0_countRounds_L4, h5, if_pos (by rw [n_le (by omega) (by omega)]; omega), show 1 + (n - 1) = n by omega, show (2 : Int32) = Int32.ofNat 2 from rfl, n_div (by omega) (by omega)]
theorem v_cntN (h5 : m.1 145 5 = Int32.ofNat n) (hn : n ≤ 8) : f_X0_countRounds (-1) m = some 0 := by
  unfold f_X0_countRounds
  rw [show hm_fu = 999999 + 1 from rfl, f_X0_countRounds_L4, h5]
  split
  · rfl
  · rw [if_pos rfl]
    rfl
end
