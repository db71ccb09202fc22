section
/-! The ways that go through one and then through another. -/
theorem sLs_0 {f : List Nat → Nat} : ∀ {l : List (List Nat)}, sLs f l = 0 → ∀ x, x ∈ l → f x = 0
  | [], _, x, hx => by cases hx
  | y :: l, h, x, hx => by
    have h : f y + sLs f l = 0 := h
    rcases List.mem_cons.mp hx with e | e
    · rw [e]; omega
    · exact sLs_0 (l := l) (by omega) x e
theorem sLs_z {f : List Nat → Nat} : ∀ {l : List (List Nat)}, (∀ x, x ∈ l → f x = 0) → sLs f l = 0
  | [], _ => rfl
  | y :: l, h => by
    show f y + sLs f l = 0
    rw [h y List.mem_cons_self, sLs_z fun x hx => h x (List.mem_cons_of_mem _ hx)]
theorem sLs_c (P : List Nat → Bool) (w : Nat) : ∀ (l : List (List Nat)), sLs (fun x => if P x = true then w else 0) l = l.countP P * w
  | [] => by show 0 = 0 * w; omega
  | y :: l => by
    show (if P y = true then w else 0) + sLs (fun x => if P x = true then w else 0) l = _
    rw [sLs_c P w l, List.countP_cons]
    split
    · rw [Nat.add_mul]; omega
    · rw [Nat.add_zero, Nat.zero_add]
theorem prod_cnt {fA fB : List Nat → Nat} {mA mB x H : Nat} {LA LB : List (List Nat)} (hH : H < 1000000) (hA : ∀ A, A ∈ LA → mA ≤ fA A) (hB : ∀ B, B ∈ LB → mB ≤ fB B) (hge : H ≤ mA + x + mB) : sLs (fun A => LB.countP fun B => decide (rop false (fA A) (rop false x (fB B)) = H)) LA = if mA + x + mB = H then LA.countP (fun A => decide (fA A = mA)) * LB.countP (fun B => decide (fB B = mB)) else 0 := by
  by_cases e : mA + x + mB = H
  · rw [if_pos e, ← sLs_c]
    refine sLs_cg fun A hAm => ?_
    have a1 := hA A hAm
    by_cases z : fA A = mA
    · rw [if_pos (decide_eq_true z)]
      refine List.countP_congr fun B hBm => ?_
      have b1 := hB B hBm
      rw [decide_eq_true_eq, decide_eq_true_eq, rop_f, rop_f]
      omega
    · rw [if_neg (fun q => z (of_decide_eq_true q)), List.countP_eq_zero]
      intro B hBm
      have b1 := hB B hBm
      rw [decide_eq_true_eq, rop_f, rop_f]
      omega
  · rw [if_neg e]
    refine sLs_z fun A hAm => ?_
    have a1 := hA A hAm
    rw [List.countP_eq_zero]
    intro B hBm
    have b1 := hB B hBm
    rw [decide_eq_true_eq, rop_f, rop_f]
    omega
variable {c : Nat → Nat → Nat} {n a b M : Nat}
theorem pth_two : ∀ (A B : List Nat) (l : Nat), pth false c 0 l (A ++ a :: b :: B) = rop false (pth false c a l A) (rop false (c a b) (pth false c 0 b B))
  | [], _, _ => rfl
  | p :: A, B, l => by
    show rop false (c l p) (pth false c 0 p (A ++ a :: b :: B)) = rop false (rop false (c l p) (pth false c a p A)) _
    rw [pth_two A B p, rop_as]
theorem wh_wh (hM : M < 2 ^ n) (h0 : M.testBit 0 = true) (hn : 0 < n) (ha : a < n) (hMa : M.testBit a = true) : wh n (wh n M a) a = M := Nat.eq_of_testBit_eq fun x => by
  rw [wh_bit, wh_bit]
  by_cases x0 : x = 0
  · rw [x0, h0]; simp
  · by_cases xa : x = a
    · rw [xa, hMa]; simp
    · by_cases xn : x < n
      · rw [decide_eq_false x0, decide_eq_false xa, decide_eq_true xn]
        simp
      · have e1 : M.testBit x = false := Nat.testBit_lt_two_pow (Nat.lt_of_lt_of_le hM (Nat.pow_le_pow_right (by decide) (by omega)))
        rw [e1, decide_eq_false x0, decide_eq_false xa, decide_eq_false xn]
        rfl
/-- those who go through all of M, then from a to b, then home -/
theorem met_cnt {k j : Nat} (hc : ∀ a b, c a b ≤ 1000000) (hs : ∀ a b, c a b = c b a) (ha0 : a ≠ 0) (ha : a < n) (hb0 : b ≠ 0) (hb : b < n) (hM0 : M.testBit 0 = true) (hMa : M.testBit a = true) (hMb : M.testBit b = false) (hM : M < 2 ^ n) (hj : cn (free (wh n M a)) n = j) (hk : (k + 2) + j = n - 1) (hlt : Hc false c n (n - 1) 1 0 < 1000000) : (rws n (n - 1) 1).countP (fun r => decide (pth false c 0 0 r = Hc false c n (n - 1) 1 0) && (foll a b r && decide (mo a 1 r = M))) = if Hc false c n j (wh n M a) a + c a b + Hc false c n k (M ||| 2 ^ b) b = Hc false c n (n - 1) 1 0 then Wc c n j (wh n M a) a * Wc c n k (M ||| 2 ^ b) b else 0 := by
  have sp := fun T => spl_cnt (n := n) (a := a) (b := b) (M := M) ha0 ha hb0 hb hMa hMb hM (k := k) j 1 (wh n M a) T (fun x hx => by
    rw [free_1]
    unfold free
    rw [wh_bit, decide_eq_true hx]
    by_cases x0 : x = 0
    · rw [x0]; rfl
    · by_cases xa : x = a
      · rw [decide_eq_false x0, decide_eq_true xa]; simp [xa]
      · rw [decide_eq_false x0, decide_eq_false xa]; simp [xa]) hj (by decide) (fun x hx => by
    by_cases x0 : x = 0
    · rw [x0]; exact hM0
    · rw [Nat.testBit_one_eq_true_iff_self_eq_zero] at hx
      exact absurd hx x0) (by
    cases q : Nat.testBit 1 a
    · rfl
    · rw [Nat.testBit_one_eq_true_iff_self_eq_zero] at q
      exact absurd q ha0)
  rw [hk] at sp
  generalize hH : Hc false c n (n - 1) 1 0 = H at *
  have hno : ∀ A, A ∈ rws n j (wh n M a) → ∀ B, B ∈ rws n k (M ||| 2 ^ b) → H ≤ rop false (pth false c a 0 A) (rop false (c a b) (pth false c 0 b B)) := fun A hA B hB => by
    have e0 := sp fun r => decide (pth false c 0 0 r < H)
    rw [List.countP_eq_zero.mpr fun r hr q => ?_] at e0
    · have e1 := sLs_0 e0.symm A hA
      have e2 := List.countP_eq_zero.mp e1 B hB
      rw [decide_eq_true_eq, pth_two] at e2
      omega
    · rw [Bool.and_eq_true, decide_eq_true_eq] at q
      have := Hc_le (w := false) (c := c) (l := 0) hr
      omega
  rw [sp fun r => decide (pth false c 0 0 r = H)]
  rw [sLs_cg (g := fun A => (rws n k (M ||| 2 ^ b)).countP fun B => decide (rop false (pth false c a 0 A) (rop false (c a b) (pth false c 0 b B)) = H)) fun A _ => List.countP_congr fun B _ => by rw [pth_two]]
  have i1 := Hc_I (w := false) (n := n) hc j (wh n M a) a
  have i2 := Hc_I (w := false) (n := n) hc k (M ||| 2 ^ b) b
  rw [prod_cnt (mA := Hc false c n j (wh n M a) a) (mB := Hc false c n k (M ||| 2 ^ b) b) hlt (fun A hA => by
    rw [← pth_rev hs]
    exact Hc_le (rev_mem hA)) (fun B hB => Hc_le hB) (by
    rcases Nat.lt_or_ge (Hc false c n j (wh n M a) a) 1000000 with y1 | y1
    · rcases Nat.lt_or_ge (Hc false c n k (M ||| 2 ^ b) b) 1000000 with y2 | y2
      · obtain ⟨A, A1, A2⟩ := Hc_ex hc y1
        obtain ⟨B, B1, B2⟩ := Hc_ex hc y2
        have := hno A.reverse (rev_mem A1) B B1
        rw [pth_rev hs, A2, B2, rop_f, rop_f] at this
        omega
      · omega
    · omega)]
  have e3 : (rws n j (wh n M a)).countP (fun A => decide (pth false c a 0 A = Hc false c n j (wh n M a) a)) = Wc c n j (wh n M a) a := by
    unfold Wc
    rw [cnt_rev (P := fun r => decide (pth false c 0 a r = _))]
    refine List.countP_congr fun A _ => ?_
    rw [pth_rev hs]
  rw [e3]
  rfl
/-- none but the first has gone before -/
theorem met_0 {k : Nat} (hb0 : b ≠ 0) (hb : b < n) (hk : k + 1 = n - 1) (hlt : Hc false c n (n - 1) 1 0 < 1000000) : (rws n (n - 1) 1).countP (fun r => decide (pth false c 0 0 r = Hc false c n (n - 1) 1 0) && decide (r.head? = some b)) = if c 0 b + Hc false c n k (1 ||| 2 ^ b) b = Hc false c n (n - 1) 1 0 then Wc c n k (1 ||| 2 ^ b) b else 0 := by
  rw [← hk] at hlt ⊢
  generalize hH : Hc false c n (k + 1) 1 0 = H at *
  have hfb : free 1 b = true := by rw [free_1]; exact decide_eq_true hb0
  have hle : H ≤ rop false (c 0 b) (Hc false c n k (1 ||| 2 ^ b) b) := by
    have h1 := mn_le (f := fun p => if free 1 p = true then rop false (c 0 p) (Hc false c n k (1 ||| 2 ^ p) p) else 1000000) hb
    simp only [if_pos hfb] at h1
    rw [← hH]
    exact h1
  show (cat (fun p => if free 1 p = true then (rws n k (1 ||| 2 ^ p)).map (p :: ·) else []) n).countP _ = _
  rw [cnt_cat, smf_one (x := b), if_pos hb, if_pos hfb]
  · have := cnt_block (n := n) (k := k) (U := 1) (l := 0) (p := b) hlt hle
    have e : (if c 0 b + Hc false c n k (1 ||| 2 ^ b) b = H then Wc c n k (1 ||| 2 ^ b) b else 0) = (if rop false (c 0 b) (Hc false c n k (1 ||| 2 ^ b) b) = H then Wc c n k (1 ||| 2 ^ b) b else 0) := by
      have : (c 0 b + Hc false c n k (1 ||| 2 ^ b) b = H) ↔ (rop false (c 0 b) (Hc false c n k (1 ||| 2 ^ b) b) = H) := by rw [rop_f]; omega
      simp only [this]
    rw [e, ← this, List.countP_map, List.countP_map]
    refine List.countP_congr fun B _ => ?_
    show (decide (pth false c 0 0 (b :: B) = H) && decide ((b :: B).head? = some b)) = true ↔ decide (pth false c 0 0 (b :: B) = H) = true
    simp
  · intro q _ hq
    split
    · rw [List.countP_map, List.countP_eq_zero]
      intro B _
      show ¬ (decide (pth false c 0 0 (q :: B) = H) && decide ((q :: B).head? = some b)) = true
      simp [hq]
    · rfl
end
