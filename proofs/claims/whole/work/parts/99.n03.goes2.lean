section
variable {N : Nat} {tk vl : Nat → Nat} {e : Nat → Int32}
theorem code_any {m : hm_M} {i : Nat} (h : TKs m 2400 N tk vl true e) (hi : i ≤ 1000) (h22 : m.1 179 22 = Int32.ofNat (2400 + i)) : f_X10_codeAt (m.1 179 22) m = some (Int32.ofNat (tk i)) := by
  obtain ⟨⟨h1, h2⟩, h3, h4, h5, -⟩ := h
  unfold f_X10_codeAt
  rw [h22, h5]
  by_cases z : 2400 + N ≤ 2400 + i
  · rw [if_pos (by rw [n_le (by omega) (by omega)]; exact z), h4 i (by omega)]
    rfl
  · rw [if_neg (by rw [n_le (by omega) (by omega)]; exact z), n_lit, n_add, ld_n (by omega) (by decide), Option.bind_some, ← Nat.add_assoc, (h3 i (by omega)).1]
theorem pass_any {m : hm_M} {i c : Nat} (h : TKs m 2400 N tk vl true e) (hi : i ≤ 1000) (hc : c < 400) (h22 : m.1 179 22 = Int32.ofNat (2400 + i)) : f_X10_passes0 (Int32.ofNat c) m = some (if tk i = c then (1, hm_wI m 179 22 (Int32.ofNat (2400 + (i + 1)))) else (0, m)) := by
  unfold f_X10_passes0
  have := tk_lt h i
  rw [code_any h hi h22, Option.bind_some]
  by_cases z : tk i = c
  · rw [if_pos (by rw [z]), if_pos z]
    unfold f_X10_passes0_J17
    rw [if_neg (by decide)]
    show some ((1 : Int32), hm_wI m 179 22 (m.1 179 22 + 1)) = _
    rw [h22, n_lit, n_add, Nat.add_assoc]
  · rw [if_neg (by rw [n_eq (by omega) (by omega)]; exact z), if_neg z]
    rfl
/-- the text that is run, what it asks for -/
def TT (ρ : Nat → Int32) (N : Nat) (tk vl : Nat → Nat) : Prop := DW ρ ∧ N ≤ 400 ∧ (∀ k, k < N → ρ (65 + 2400 + k) = Int32.ofNat (tk k) ∧ ρ (2865 + 2400 + k) = Int32.ofNat (vl k) ∧ tk k < 400 ∧ vl k < 100000000) ∧ ∀ k, N ≤ k → tk k = 0
def TG (ρ : Nat → Int32) (D : Nat) (la lo : Int32) (N : Nat) (m : hm_M) : Prop := m.1 181 = ρ ∧ m.1 179 23 = Int32.ofNat (2400 + N) ∧ m.1 179 25 = zb true ∧ m.1 179 27 = Int32.ofNat D ∧ m.1 179 28 = la ∧ m.1 179 29 = lo
variable {ρ : Nat → Int32} {D : Nat} {la lo : Int32}
theorem TG.ks {m : hm_M} (h : TG ρ D la lo N m) (t : TT ρ N tk vl) : TKs m 2400 N tk vl true (ew ρ D la lo) := TKs.mk' h.1 t.1 t.2.1 t.2.2.1 t.2.2.2 h.2.1 h.2.2.1 h.2.2.2.1 h.2.2.2.2.1 h.2.2.2.2.2
theorem TG.same {m m1 : hm_M} (h : TG ρ D la lo N m) (f : ∀ a q, a = 181 ∨ (a = 179 ∧ (q = 23 ∨ q = 25 ∨ q = 27 ∨ q = 28 ∨ q = 29)) → m1.1 a q = m.1 a q) : TG ρ D la lo N m1 := by
  obtain ⟨a1, a2, a3, a4, a5, a6⟩ := h
  refine ⟨?_, by rw [f _ _ (by omega)]; exact a2, by rw [f _ _ (by omega)]; exact a3, by rw [f _ _ (by omega)]; exact a4, by rw [f _ _ (by omega)]; exact a5, by rw [f _ _ (by omega)]; exact a6⟩
  rw [← a1]
  exact funext fun j => f _ _ (by omega)
theorem ga_tail {m : hm_M} {j l j1 l1 h a e1 : Nat} {C C1 : pc_C} {K : pc_K} {s1 s2 : pc_S} (t : TT ρ N tk vl) (hG : TG ρ D la lo N m) (hC : C.length ≤ j) (hj : j ≤ N) (h22 : m.1 179 22 = Int32.ofNat (2400 + j)) (hp : pc_tail tk vl h a e1 s1 s2 j l C = .ok (j1, l1, C1, K)) (live : Bool) (v1 : Int32) : ∃ m', (Option.bind (hm_pI m 179 48 (1 : Int32)) fun μ17 => hm_b2 (f_X10_passes0 (29 : Int32) μ17) fun x18 μ19 => (if x18 = 0 then f_X10_goesAlong_J187 v1 (zb live) μ19 else Option.bind (hm_ld μ19 181 5665 ((2865 : Int32) + (μ19.1 179 22))) fun x28 => Option.bind (hm_pI μ19 179 48 x28) fun μ29 => Option.bind (hm_pI μ29 179 22 ((μ29.1 179 22) + (1 : Int32))) fun μ30 => f_X10_goesAlong_J187 v1 (zb live) μ30)) = some m' ∧ (m'.2 = m.2 ∧ ∀ a q, ¬ (a = 179 ∧ (q = 22 ∨ q = 24 ∨ q = 48 ∨ q = 51)) → m'.1 a q = m.1 a q) ∧ m'.1 179 22 = Int32.ofNat (2400 + (j1 + 1)) ∧ m'.1 179 48 = Int32.ofNat K.1.2.2.2.2.2 ∧ (live = true → m'.1 179 51 = zb (tt K.2.2.2 (ew ρ D la lo))) ∧ K.1.1 = h ∧ K.2.1 = s1 ∧ K.2.2.1 = s2 := by
  have hN := t.2.1
  rw [pI_some, Option.bind_some]
  have G1 : TG ρ D la lo N (hm_wI m 179 48 1) := hG.same fun a q z => wI_ne (by omega)
  rw [show (29 : Int32) = Int32.ofNat 29 from rfl, pass_any (G1.ks t) (i := j) (by omega) (by omega) (by rw [wI_ne (by omega)]; exact h22)]
  unfold pc_tail pc_times at hp
  by_cases y : tk j = 29
  · rw [if_pos y] at hp ⊢
    by_cases y2 : tk (j + 1) = 50 ∧ 1 ≤ vl (j + 1) ∧ vl (j + 1) ≤ 20
    · rw [if_pos y2] at hp
      obtain ⟨j3, l3, C3, t3, e3, hp⟩ := pc_b_ok hp
      cases hp
      have hj1 : j + 1 < N := by
        rcases Nat.lt_or_ge (j + 1) N with q | q
        · exact q
        · have := t.2.2.2 (j + 1) q
          omega
      have hv := (t.2.2.1 (j + 1) hj1).2.1
      rw [b2_some, if_neg (by decide), wI_at, show (2865 : Int32) = Int32.ofNat 2865 from rfl, n_add, ld_n (by omega) (by decide), Option.bind_some, wI_ne (by omega), wI_ne (by omega), hG.1, show 2865 + (2400 + (j + 1)) = 2865 + 2400 + (j + 1) by omega, hv, pI_some, Option.bind_some, wI_ne (by omega), wI_at, show Int32.ofNat (2400 + (j + 1)) + 1 = Int32.ofNat (2400 + (j + 2)) from n_add _ 1, pI_some, Option.bind_some]
      generalize hm2 : hm_wI (hm_wI (hm_wI (hm_wI m 179 48 1) 179 22 (Int32.ofNat (2400 + (j + 1)))) 179 48 (Int32.ofNat (vl (j + 1)))) 179 22 (Int32.ofNat (2400 + (j + 2))) = m2
      have f2 : ∀ a q, ¬ (a = 179 ∧ (q = 22 ∨ q = 48)) → m2.1 a q = m.1 a q := fun a q z => by rw [← hm2, wI_ne (by omega), wI_ne (by omega), wI_ne (by omega), wI_ne (by omega)]
      obtain ⟨m', q1, q2, q3, q4⟩ := ga_if ((hG.same fun a q z => f2 a q (by omega)).ks t) (by omega) (by omega) (by rw [← hm2, wI_at]) e3 live v1
      refine ⟨m', q1, ⟨q2.1.trans (by rw [← hm2]; rfl), fun a q z => (q2.2 a q (by omega)).trans (f2 a q (by omega))⟩, q3, ?_, q4, rfl, rfl, rfl⟩
      rw [q2.2 _ _ (by omega), ← hm2, wI_ne (by omega), wI_at]
    · rw [if_neg y2] at hp
      cases hp
  · rw [if_neg y] at hp ⊢
    obtain ⟨j3, l3, C3, t3, e3, hp⟩ := pc_b_ok hp
    cases hp
    rw [b2_some, if_pos rfl]
    obtain ⟨m', q1, q2, q3, q4⟩ := ga_if (G1.ks t) (by omega) (by omega) (by rw [wI_ne (by omega)]; exact h22) e3 live v1
    refine ⟨m', q1, ⟨q2.1, fun a q z => (q2.2 a q (by omega)).trans (wI_ne (by omega))⟩, q3, ?_, q4, rfl, rfl, rfl⟩
    rw [q2.2 _ _ (by omega), wI_at]
    rfl
/-- only what orders ask for has changed -/
def fo (m m1 : hm_M) : Prop := m1.2.2 = m.2.2 ∧ ∀ a j, a ≠ 191 → ¬ (a = 179 ∧ ((22 ≤ j ∧ j ≤ 25) ∨ j = 29 ∨ (48 ≤ j ∧ j ≤ 51))) → m1.1 a j = m.1 a j
theorem headO_c : ∀ c, c < 400 → pc_headO c ≠ 9 → c = 22 + 2 * pc_headO c ∧ pc_headO c < 4 := by decide +kernel
/-- what the reference knows of an order -/
def RO (live : Bool) (e : Nat → Int32) (K : pc_K) (m : hm_M) : Prop := live = true → m.1 179 51 = zb (tt K.2.2.2 e) ∧ (K.1.1 = 3 → m.1 179 50 = 1) ∧ (K.1.1 ≠ 3 → m.1 179 50 = zb (!(K.2.1 e).isNone && !(K.2.2.1 e).isNone) ∧ (∀ x, K.2.1 e = some x → m.2.1 203 0 = x.toInt64) ∧ ∀ x, K.2.2.1 e = some x → m.2.1 203 1 = x.toInt64)
theorem v_goes1 {m : hm_M} {i l j l1 : Nat} {C C1 : pc_C} {K : pc_K} (live : Bool) (t : TT ρ N tk vl) (hρ : m.1 181 = ρ) (h27 : m.1 179 27 = Int32.ofNat D) (h28 : m.1 179 28 = la) (h47 : m.1 179 47 = Int32.ofNat (2400 + i)) (hC : C.length ≤ i) (hi : i ≤ N) (hp : pc_ord1 tk vl i l C = .ok (j, l1, C1, K)) : ∃ m', f_X10_goesAlong_J13 (Int32.ofNat (2400 + N)) (zb live) lo m = some m' ∧ fo m m' ∧ m'.1 179 22 = Int32.ofNat (2400 + (j + 1)) ∧ m'.1 179 48 = Int32.ofNat K.1.2.2.2.2.2 ∧ m'.1 179 49 = Int32.ofNat (22 + 2 * K.1.1) ∧ RO live (ew ρ D la lo) K m' := by
  have hN := t.2.1
  unfold f_X10_goesAlong_J13
  rw [pI_some, Option.bind_some, show (1 : Int32) = zb true from rfl, zb_pZ, Option.bind_some, pI_some, Option.bind_some, wI_ne (by omega), wI_ne (by omega), wI_ne (by omega), h47, pI_some, Option.bind_some]
  generalize hm5 : hm_wI (hm_wI (hm_wI (hm_wI m 179 29 lo) 179 25 (zb true)) 179 23 (Int32.ofNat (2400 + N))) 179 22 (Int32.ofNat (2400 + i)) = m5
  have f5 : ∀ a q, ¬ (a = 179 ∧ (q = 22 ∨ q = 23 ∨ q = 25 ∨ q = 29)) → m5.1 a q = m.1 a q := fun a q z => by rw [← hm5, wI_ne (by omega), wI_ne (by omega), wI_ne (by omega), wI_ne (by omega)]
  have G5 : TG ρ D la lo N m5 := by
    refine ⟨?_, ?_, ?_, ?_, ?_, ?_⟩
    · rw [← hρ]; exact funext fun q => f5 _ _ (by omega)
    · rw [← hm5, wI_ne (by omega), wI_at]
    · rw [← hm5, wI_ne (by omega), wI_ne (by omega), wI_at]
    · rw [f5 _ _ (by omega)]; exact h27
    · rw [f5 _ _ (by omega)]; exact h28
    · rw [← hm5, wI_ne (by omega), wI_ne (by omega), wI_ne (by omega), wI_at]
  have k22 : m5.1 179 22 = Int32.ofNat (2400 + i) := by rw [← hm5, wI_at]
  have t4 := tk_lt (G5.ks t) i
  rw [code_any (G5.ks t) (by omega) k22, Option.bind_some, pI_some, Option.bind_some, wI_ne (by omega), k22, show Int32.ofNat (2400 + i) + zb true = Int32.ofNat (2400 + (i + 1)) from n_add _ 1, pI_some, Option.bind_some, zb_pZ, Option.bind_some, wI_ne (by omega), wI_ne (by omega), wI_at]
  generalize hm9 : hm_wI (hm_wI (hm_wI m5 179 49 (Int32.ofNat (tk i))) 179 22 (Int32.ofNat (2400 + (i + 1)))) 179 50 (zb true) = m9
  have f9 : ∀ a q, ¬ (a = 179 ∧ (q = 22 ∨ q = 49 ∨ q = 50)) → m9.1 a q = m5.1 a q := fun a q z => by rw [← hm9, wI_ne (by omega), wI_ne (by omega), wI_ne (by omega)]
  have G9 : TG ρ D la lo N m9 := G5.same fun a q z => f9 a q (by omega)
  have k22' : m9.1 179 22 = Int32.ofNat (2400 + (i + 1)) := by rw [← hm9, wI_ne (by omega), wI_at]
  have k50 : m9.1 179 50 = zb true := by rw [← hm9, wI_at]
  have k49 : m9.1 179 49 = Int32.ofNat (tk i) := by rw [← hm9, wI_ne (by omega), wI_ne (by omega), wI_at]
  have r9 : m9.2 = m.2 := by rw [← hm9, ← hm5]; rfl
  have hiN : pc_headO (tk i) ≠ 9 → i < N := fun z => by
    rcases Nat.lt_or_ge i N with q | q
    · exact q
    · exact absurd (by rw [t.2.2.2 i q]; rfl) z
  unfold pc_ord1 at hp
  split at hp
  · cases hp
  · rename_i c9
    have hc := headO_c _ t4 c9
    have hiN := hiN c9
    unfold f_X10_goesAlong_J75
    split at hp
    · rename_i c3
      obtain ⟨m', q1, q2, q3, q4, q5, q6, q7, q8⟩ := ga_tail t G9 (by omega) (by omega) k22' hp live (Int32.ofNat (2400 + N))
      rw [if_pos (show Int32.ofNat (tk i) = 28 by rw [show (28 : Int32) = Int32.ofNat 28 from rfl, n_eq (by omega) (by omega)]; omega), show hm_fu = 999999 + 1 from rfl, f_X10_goesAlong_L79, if_pos (by decide)]
      refine ⟨m', q1, ⟨by rw [q2.1, r9], fun a q z z1 => by rw [q2.2 a q (by omega), f9 a q (by omega), f5 a q (by omega)]⟩, q3, q4, ?_, fun hl => ⟨q5 hl, fun _ => ?_, fun z => absurd q6 z⟩⟩
      · rw [q2.2 _ _ (by omega), k49, q6]
        exact congrArg Int32.ofNat (by omega)
      · rw [q2.2 _ _ (by omega), k50]
        rfl
    · rename_i c3
      obtain ⟨ja, la1, Ca, sa, ea, hp⟩ := pc_b_ok hp
      split at hp
      · rename_i cw
        obtain ⟨jb, lb1, Cb, sb, eb, hp⟩ := pc_b_ok hp
        have oka := (sum_ok (W := 21) (N := N) t.2.2.2 rfl _ _ _ _ _ _ _ _ _ ea).1
        have okb := (sum_ok (W := 21) (N := N) t.2.2.2 rfl _ _ _ _ _ _ _ _ _ eb).1
        obtain ⟨ma, a1, ⟨a2, a3, a4⟩, a5, a6, a7⟩ := ga_sum (G9.ks t) (by omega) k22' k50 ea (k := 0) (by omega) live (Int32.ofNat (2400 + N))
        have Ga : TG ρ D la lo N ma := G9.same fun a q z => a4 a q (by omega)
        have Gb : TG ρ D la lo N (hm_wI ma 179 22 (Int32.ofNat (2400 + (ja + 1)))) := Ga.same fun a q z => wI_ne (by omega)
        obtain ⟨mb, b1, ⟨b2, b3, b4⟩, b5, b6, b7⟩ := ga_sum (Gb.ks t) (by omega) (wI_at _ _ _ _) (by rw [wI_ne (by omega)]; exact a6) eb (k := 1) (by omega) live (Int32.ofNat (2400 + N))
        have Gc : TG ρ D la lo N mb := Gb.same fun a q z => b4 a q (by omega)
        obtain ⟨m', q1, q2, q3, q4, q5, q6, q7, q8⟩ := ga_tail t Gc (by omega) (by omega) b5 hp live (Int32.ofNat (2400 + N))
        rw [if_neg (show ¬ Int32.ofNat (tk i) = 28 by rw [show (28 : Int32) = Int32.ofNat 28 from rfl, n_eq (by omega) (by omega)]; omega), show hm_fu = 999997 + 1 + 1 + 1 from rfl, f_X10_goesAlong_L79, if_neg (by decide), if_pos (by decide), show (0 : Int32) = Int32.ofNat 0 from rfl, a1, f_X10_goesAlong_L79, if_neg (by decide), if_neg (by decide), a5, show Int32.ofNat (2400 + ja) + 1 = Int32.ofNat (2400 + (ja + 1)) from n_add _ 1, pI_some, Option.bind_some, show (0 + 1) = 1 from rfl, b1, f_X10_goesAlong_L79, if_pos (by decide)]
        refine ⟨m', q1, ⟨?_, fun a q z z1 => ?_⟩, q3, q4, ?_, fun hl => ⟨q5 hl, fun z => ?_, fun _ => ⟨?_, fun x hx => ?_, fun x hx => ?_⟩⟩⟩
        · rw [q2.1, b2]
          show ma.2.2 = _
          rw [a2, r9]
        · rw [q2.2 a q (by omega), b4 a q (by omega), wI_ne (by omega), a4 a q (by omega), f9 a q (by omega), f5 a q (by omega)]
        · rw [q2.2 _ _ (by omega), b4 _ _ (by omega), wI_ne (by omega), a4 _ _ (by omega), k49, q6, ← hc.1]
        · rw [q6] at z
          exact absurd z c3
        · rw [q2.2 _ _ (by omega), b6, hl, q7, q8]
          simp
        · rw [q7] at hx
          rw [q2.1, b3 0 (by omega)]
          exact a7 hl x hx
        · rw [q8] at hx
          rw [q2.1]
          exact b7 hl x hx
      · cases hp
theorem v_goes {m : hm_M} {i l j l1 : Nat} {C C1 : pc_C} {K : pc_K} {L : List pc_K} (live : Bool) (t : TT ρ N tk vl) (hρ : m.1 181 = ρ) (h27 : m.1 179 27 = Int32.ofNat D) (h28 : m.1 179 28 = la) (h47 : m.1 179 47 = Int32.ofNat (2400 + i)) (hL : FL ρ L) (hC : C.length ≤ i) (hi : i ≤ N) (hp : pc_ord1 tk vl i l C = .ok (j, l1, C1, K)) : ∃ m', f_X10_goesAlong (Int32.ofNat (2400 + N)) (zb live) m = some m' ∧ fo m m' ∧ m'.1 179 22 = Int32.ofNat (2400 + (j + 1)) ∧ m'.1 179 48 = Int32.ofNat K.1.2.2.2.2.2 ∧ m'.1 179 49 = Int32.ofNat (22 + 2 * K.1.1) ∧ RO live (ew ρ D la (Int32.ofNat (s_all L ρ (nat (ρ 54))))) K m' := by
  unfold f_X10_goesAlong
  cases live with
  | false =>
    rw [if_pos (show zb false = 0 from rfl)]
    obtain ⟨m', q1, q2, q3, q4, q5, q6⟩ := v_goes1 (lo := 0) false t hρ h27 h28 h47 hC hi hp
    exact ⟨m', q1, q2, q3, q4, q5, fun z => by cases z⟩
  | true =>
    have hn := t.1.1.2
    rw [if_neg (show ¬ zb true = 0 by decide)]
    obtain ⟨m1, f1, e1⟩ := v_lost10 (μ := m) (n := nat (ρ 54)) (L := L) (by omega) (by rw [hρ]; exact t.1.1.1) (fun i hi => by rw [hρ]; exact (t.1.2.1 i hi).2.2.2) (by rw [hρ]; exact t.1.b) (by rw [hρ]; exact hL)
    rw [e1, b2_some, hρ]
    obtain ⟨m', q1, q2, q3, q4, q5, q6⟩ := v_goes1 (m := m1) (D := D) (la := la) (lo := Int32.ofNat (s_all L ρ (nat (ρ 54)))) true t (by rw [← hρ]; exact fq_181 f1) (by rw [f1.2 _ _ (by omega) (by omega)]; exact h27) (by rw [f1.2 _ _ (by omega) (by omega)]; exact h28) (by rw [f1.2 _ _ (by omega) (by omega)]; exact h47) hC hi hp
    exact ⟨m', q1, ⟨q2.1.trans (by rw [f1.1]), fun a q z z1 => (q2.2 a q z z1).trans (f1.2 a q z (by omega))⟩, q3, q4, q5, q6⟩
end
