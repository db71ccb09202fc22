section
/-! The reference tries all rings. -/
theorem v_mny {m : hm_M} : f_X10_many m = some (m.1 181 54) := by
  unfold f_X10_many
  rw [show (54 : Int32) = Int32.ofNat 54 from rfl, ld_n (by omega) (by decide), Option.bind_some]
def CR (m : hm_M) (n : Nat) (c : Nat → Nat → Nat) : Prop := ∀ a b, a < n → b < n → a ≠ b → m.1 196 (8 * a + b) = Int32.ofNat (c a b)
def MR (w : Bool) (m : hm_M) (n : Nat) (c : Nat → Nat → Nat) : Prop := m.1 181 54 = Int32.ofNat n ∧ CR m n c ∧ m.1 179 39 = zb w
def uq (w : Bool) (c : Nat → Nat → Nat) (q : List Nat) (s l : Nat) (st : Nat × Option (List Nat)) (r : List Nat) : Nat × Option (List Nat) := if ori (q ++ r) = true ∧ rop w s (pth w c 0 l r) < st.1 then (rop w s (pth w c 0 l r), some (q ++ r)) else st
variable {w : Bool} {c : Nat → Nat → Nat} {n : Nat} {m : hm_M}
theorem uq_c {q : List Nat} {s l p : Nat} {st : Nat × Option (List Nat)} {r : List Nat} : uq w c q s l st (p :: r) = uq w c (q ++ [p]) (rop w s (c l p)) p st r := by
  unfold uq
  rw [show q ++ p :: r = q ++ [p] ++ r by rw [List.append_assoc]; rfl, show pth w c 0 l (p :: r) = rop w (c l p) (pth w c 0 p r) from rfl, rop_as]
theorem uq_no {q : List Nat} {s l : Nat} {st : Nat × Option (List Nat)} (hs : s ≤ 1000000) (h : st.1 ≤ s) : ∀ {L : List (List Nat)}, L.foldl (uq w c q s l) st = st
  | [] => rfl
  | r :: L => by
    have e : uq w c q s l st r = st := if_neg fun z => by
      have := rop_ge (w := w) (b := pth w c 0 l r) hs
      have := z.2
      omega
    rw [List.foldl_cons, e]
    exact uq_no hs h
theorem foldl_cat {α β : Type} {f : β → α → β} {g : Nat → List α} : ∀ {P : Nat} {b : β}, (cat g (P + 1)).foldl f b = (g P).foldl f ((cat g P).foldl f b) := fun {P} {b} => by
  show (cat g P ++ g P).foldl f b = _
  rw [List.foldl_append]
theorem uq_1 {q : List Nat} {s l : Nat} (hs : s ≤ 1000000) (hc : ∀ a b, c a b ≤ 1000000) : ∀ {L : List (List Nat)} {st : Nat × Option (List Nat)}, st.1 ≤ 1000000 → (L.foldl (uq w c q s l) st).1 ≤ 1000000
  | [], st, h => h
  | r :: L, st, h => by
    rw [List.foldl_cons]
    refine uq_1 hs hc ?_
    unfold uq
    split
    · exact rop_le hs (pth_I hc)
    · exact h
def SRw (m : hm_M) (q : List Nat) : Prop := m.1 197 0 = 0 ∧ ∀ i, i < q.length → m.1 197 (i + 1) = Int32.ofNat (q.getD i 0)
def BR (m : hm_M) (n : Nat) (st : Nat × Option (List Nat)) : Prop := m.1 179 38 = Int32.ofNat st.1 ∧ st.1 ≤ 1000000 ∧ ∀ g, st.2 = some g → ∀ i, i < n → m.1 198 i = Int32.ofNat ((0 :: g).getD i 0)
def fTr (j : Nat) (m m1 : hm_M) : Prop := m1.2 = m.2 ∧ ∀ a k, ¬ (a = 197 ∧ j < k) → a ≠ 198 → ¬ (a = 179 ∧ k = 38) → m1.1 a k = m.1 a k
theorem fTr_refl (j : Nat) (m : hm_M) : fTr j m m := ⟨rfl, fun _ _ _ _ _ => rfl⟩
theorem v_with {s a b : Nat} (hn : n ≤ 8) (hM : MR w m n c) (hc : ∀ a b, c a b ≤ 1000000) (hs : s ≤ 1000000) (ha : a < n) (hb : b < n) (hab : a ≠ b) : f_X10_with (Int32.ofNat s) (Int32.ofNat a) (Int32.ofNat b) m = some (Int32.ofNat (rop w s (c a b))) := by
  have hcab := hc a b
  unfold f_X10_with rop
  rw [show (8 : Int32) = Int32.ofNat 8 from rfl, n_mul, n_add, ld_n (by omega) (by decide), Option.bind_some, hM.2.1 a b ha hb hab, hM.2.2]
  cases w
  · rw [if_pos (show zb false = 0 from rfl), n_add]
    unfold f_X10_lesser
    simp only [Bool.false_eq_true, if_false]
    rw [show (1000000 : Int32) = Int32.ofNat 1000000 from rfl]
    by_cases z : s + c a b ≤ 1000000
    · rw [if_pos (by rw [n_le (by omega) (by omega)]; exact z), Option.bind_some, Nat.min_eq_right z]
    · rw [if_neg (by rw [n_le (by omega) (by omega)]; exact z), Option.bind_some, Nat.min_eq_left (by omega)]
  · rw [if_neg (show ¬ zb true = 0 by decide)]
    unfold f_X10_greater
    simp only [if_true]
    by_cases z : s ≤ c a b
    · rw [if_pos (by rw [n_le (by omega) (by omega)]; exact z), Option.bind_some, Nat.max_eq_right z]
    · rw [if_neg (by rw [n_le (by omega) (by omega)]; exact z), Option.bind_some, Nat.max_eq_left (by omega)]
theorem getD_l (q : List Nat) (p i : Nat) (h : i < q.length) : (q ++ [p]).getD i 0 = q.getD i 0 := by
  rw [List.getD_eq_getElem?_getD, List.getD_eq_getElem?_getD, List.getElem?_append_left h]
theorem getD_e (q : List Nat) (p : Nat) : (q ++ [p]).getD q.length 0 = p := by
  rw [List.getD_eq_getElem?_getD, List.getElem?_append_right (Nat.le_refl _), Nat.sub_self]
  rfl
theorem v_tries (hn : n ≤ 8) (h3 : 3 ≤ n) (hc : ∀ a b, c a b ≤ 1000000) : ∀ (k D : Nat) (q : List Nat) (U l s : Nat) (m : hm_M) (st : Nat × Option (List Nat)), k < D → q.length + 1 + k = n → U < 2 ^ n → (∀ x, x ∈ q → x < n ∧ x ≠ 0 ∧ U.testBit x = true) → q.Nodup → l = (0 :: q).getD q.length 0 → l < n → U.testBit l = true → s ≤ 1000000 → MR w m n c → SRw m q → BR m n st → ∃ m1, K_X10_triesRing D (Int32.ofNat (q.length + 1)) (Int32.ofNat U) (Int32.ofNat s) m = some m1 ∧ BR m1 n ((rws n k U).foldl (uq w c q s l) st) ∧ fTr q.length m m1
  | 0, D, q, U, l, s, m, st, hD, hq, hU, hx, hnd, hl, hln, hUl, hs, hM, hR, hB => by
    obtain ⟨D, rfl⟩ : ∃ M, D = M + 1 := ⟨D - 1, by omega⟩
    obtain ⟨b1, b2, b3⟩ := id hB
    show ∃ m1, f_X10_triesRing (K_X10_triesRing D) (Int32.ofNat (q.length + 1)) (Int32.ofNat U) (Int32.ofNat s) m = some m1 ∧ BR m1 n ([[]].foldl (uq w c q s l) st) ∧ fTr q.length m m1
    rw [List.foldl_cons, List.foldl_nil]
    unfold f_X10_triesRing
    rw [b1]
    by_cases z : s < st.1
    · have hl' : l = q.getD (q.length - 1) 0 := by
        rw [hl, List.getD_eq_getElem?_getD, List.getD_eq_getElem?_getD, show q.length = (q.length - 1) + 1 by omega, List.getElem?_cons_succ]
        rfl
      have hq0 : m.1 197 1 = Int32.ofNat (q.getD 0 0) := hR.2 0 (by omega)
      have hql : m.1 197 q.length = Int32.ofNat l := by
        have := hR.2 (q.length - 1) (by omega)
        rw [show q.length - 1 + 1 = q.length by omega] at this
        rw [this, hl']
      have hlq : l ∈ q := by
        rw [hl', List.getD_eq_getElem?_getD, List.getElem?_eq_getElem (by omega)]
        exact List.getElem_mem _
      have h0q : q.getD 0 0 < n := by
        rw [List.getD_eq_getElem?_getD, List.getElem?_eq_getElem (by omega)]
        exact (hx _ (List.getElem_mem _)).1
      have hne := ends_ne hnd (by omega)
      rw [if_pos (by rw [n_lt (by omega) (by omega)]; exact z), v_mny, hM.1, Option.bind_some, if_pos (by rw [show q.length + 1 = n by omega]), show (1 : Int32) = Int32.ofNat 1 from rfl, n_sub (by omega), show q.length + 1 - 1 = q.length by omega, ld_n (by omega) (by decide), Option.bind_some, hql, show (0 : Int32) = Int32.ofNat 0 from rfl, v_with hn hM hc hs hln (by omega) (hx l hlq).2.1, Option.bind_some, ld_n (by omega) (by decide), Option.bind_some, Option.bind_some, hq0]
      have e1 : ori (q ++ []) = decide (q.getD 0 0 < l) := by
        rw [List.append_nil]
        unfold ori
        rw [← hl']
      have e2 : uq w c q s l st [] = if q.getD 0 0 < l ∧ rop w s (c l 0) < st.1 then (rop w s (c l 0), some q) else st := by
        unfold uq
        rw [e1, List.append_nil]
        simp only [decide_eq_true_eq]
        rfl
      have hrI := rop_le (w := w) hs (hc l 0)
      rw [← hl'] at hne
      by_cases y1 : l < q.getD 0 0
      · rw [if_pos (by rw [n_lt (by omega) (by omega)]; exact y1), e2, if_neg (by omega)]
        exact ⟨m, rfl, hB, fTr_refl _ m⟩
      · rw [if_neg (by rw [n_lt (by omega) (by omega)]; exact y1)]
        by_cases y2 : rop w s (c l 0) < st.1
        · rw [if_pos (by rw [n_lt (by omega) (by omega)]; exact y2), e2, if_pos ⟨by omega, y2⟩, pI_some, Option.bind_some]
          refine lo2 (L := f_X10_triesRing_L69 (K_X10_triesRing D) (Int32.ofNat (q.length + 1)) (Int32.ofNat U) (Int32.ofNat s) (fun m => some m)) (fun i y m1 => y = Int32.ofNat i ∧ (∀ j, j < i → m1.1 198 j = Int32.ofNat ((0 :: q).getD j 0)) ∧ m1.2 = m.2 ∧ ∀ a j, a ≠ 198 → m1.1 a j = (hm_wI m 179 38 (Int32.ofNat (rop w s (c l 0)))).1 a j) (fun o => ∃ m1, o = some m1 ∧ BR m1 n (rop w s (c l 0), some q) ∧ fTr q.length m m1) n (fun i y m1 hi hI => Or.inl ?_) (fun y m1 hI F => ?_) (fu_lt (by omega)) ⟨rfl, fun j hj => absurd hj (Nat.not_lt_zero _), rfl, fun _ _ _ => rfl⟩
          · obtain ⟨rfl, i1, i2, i3⟩ := hI
            have hri : m1.1 197 i = Int32.ofNat ((0 :: q).getD i 0) := by
              rw [i3 _ _ (by omega), wI_ne (by omega)]
              match i, hi with
              | 0, _ => exact hR.1
              | i + 1, hi => exact hR.2 i (by omega)
            refine ⟨_, hm_wI m1 198 i (Int32.ofNat ((0 :: q).getD i 0)), ⟨rfl, fun j hj => ?_, i2, fun a j ha => by rw [wI_ne (by omega)]; exact i3 a j ha⟩, fun F => ?_⟩
            · by_cases e : j = i
              · rw [e, wI_at]
              · rw [wI_ne (by omega)]; exact i1 j (by omega)
            · rw [f_X10_triesRing_L69, if_neg (by rw [n_le (by omega) (by omega)]; omega), ld_n (by omega) (by decide), Option.bind_some, hri, sd_n (by omega) (by decide), Option.bind_some, show Int32.ofNat i + 1 = Int32.ofNat (i + 1) from n_add i 1]
          · obtain ⟨rfl, i1, i2, i3⟩ := hI
            refine ⟨m1, by rw [f_X10_triesRing_L69, if_pos (by rw [n_le (by omega) (by omega)]; omega)], ⟨by rw [i3 _ _ (by omega), wI_at], hrI, fun g hg i hi => ?_⟩, ⟨i2, fun a k z1 z2 z3 => by rw [i3 a k z2, wI_ne z3]⟩⟩
            cases hg
            exact i1 i hi
        · rw [if_neg (by rw [n_lt (by omega) (by omega)]; exact y2), e2, if_neg (by omega)]
          exact ⟨m, rfl, hB, fTr_refl _ m⟩
    · rw [if_neg (by rw [n_lt (by omega) (by omega)]; exact z)]
      have e2 : uq w c q s l st [] = st := by
        unfold uq
        refine if_neg fun y => ?_
        have := rop_ge (w := w) (b := pth w c 0 l []) hs
        have := y.2
        omega
      rw [e2]
      exact ⟨m, rfl, hB, fTr_refl _ m⟩
  | k + 1, D, q, U, l, s, m, st, hD, hq, hU, hx, hnd, hl, hln, hUl, hs, hM, hR, hB => by
    obtain ⟨D, rfl⟩ : ∃ M, D = M + 1 := ⟨D - 1, by omega⟩
    obtain ⟨b1, b2, b3⟩ := id hB
    have h256 := p256 hn
    show ∃ m1, f_X10_triesRing (K_X10_triesRing D) (Int32.ofNat (q.length + 1)) (Int32.ofNat U) (Int32.ofNat s) m = some m1 ∧ _
    unfold f_X10_triesRing
    rw [b1]
    by_cases z : s < st.1
    · rw [if_pos (by rw [n_lt (by omega) (by omega)]; exact z), v_mny, hM.1, Option.bind_some, if_neg (by rw [n_eq (by omega) (by omega)]; omega)]
      show ∃ m1, _ ∧ BR m1 n ((cat (fun p => if free U p = true then (rws n k (U ||| 2 ^ p)).map (p :: ·) else []) n).foldl (uq w c q s l) st) ∧ _
      generalize hg : (fun p => if free U p = true then (rws n k (U ||| 2 ^ p)).map (p :: ·) else []) = g
      have g0 : g 0 = [] := by rw [← hg]; rfl
      have e0 : (cat g 1).foldl (uq w c q s l) st = st := by
        show ([] ++ g 0).foldl _ st = st
        rw [g0]
        rfl
      refine lo2 (L := f_X10_triesRing_L99 (K_X10_triesRing D) (Int32.ofNat (q.length + 1)) (Int32.ofNat U) (Int32.ofNat s) (fun m => some m)) (fun i y m1 => y = Int32.ofNat (1 + i) ∧ BR m1 n ((cat g (1 + i)).foldl (uq w c q s l) st) ∧ fTr q.length m m1) (fun o => ∃ m1, o = some m1 ∧ BR m1 n ((cat g n).foldl (uq w c q s l) st) ∧ fTr q.length m m1) (n - 1) (fun i y m1 hi hI => Or.inl ?_) (fun y m1 hI F => ?_) (fu_lt (by omega)) ⟨rfl, by rw [Nat.add_zero, e0]; exact hB, fTr_refl _ m⟩
      · obtain ⟨rfl, B1, f1⟩ := hI
        have n54 : m1.1 181 54 = Int32.ofNat n := by rw [f1.2 _ _ (by omega) (by omega) (by omega)]; exact hM.1
        have hp8 : 1 + i < 8 := by omega
        have st1 : (cat g (1 + (i + 1))).foldl (uq w c q s l) st = (g (1 + i)).foldl (uq w c q s l) ((cat g (1 + i)).foldl (uq w c q s l) st) := foldl_cat
        cases hb : U.testBit (1 + i) with
        | true =>
          have gp : g (1 + i) = [] := by
            rw [← hg]
            refine if_neg ?_
            unfold free
            rw [hb]
            simp
          refine ⟨_, m1, ⟨rfl, by rw [st1, gp]; exact B1, f1⟩, fun F => ?_⟩
          rw [f_X10_triesRing_L99, v_mny, n54, Option.bind_some, if_neg (by rw [n_le (by omega) (by omega)]; omega), v_isIn (by omega) hp8, Option.bind_some, hb, if_neg (show ¬ zb true = 0 by decide)]
          unfold f_X10_triesRing_J156
          rw [show Int32.ofNat (1 + i) + 1 = Int32.ofNat (1 + (i + 1)) from n_add _ 1]
        | false =>
          have hf : free U (1 + i) = true := by
            unfold free
            rw [hb]
            simp
          have gp : g (1 + i) = (rws n k (U ||| 2 ^ (1 + i))).map ((1 + i) :: ·) := by
            rw [← hg]
            exact if_pos hf
          have hlne : l ≠ 1 + i := fun y => by rw [← y, hUl] at hb; cases hb
          have hql : m1.1 197 q.length = Int32.ofNat l := by
            rw [f1.2 _ _ (by omega) (by omega) (by omega), hl]
            match hqq : q.length with
            | 0 => rw [show (0 :: q).getD 0 0 = 0 from rfl]; exact hR.1
            | j + 1 => exact hR.2 j (by omega)
          have hM2 : MR w (hm_wI m1 197 (q.length + 1) (Int32.ofNat (1 + i))) n c := ⟨by rw [wI_ne (by omega)]; exact n54, fun a b ha hb hab => by rw [wI_ne (by omega), f1.2 _ _ (by omega) (by omega) (by omega)]; exact hM.2.1 a b ha hb hab, by rw [wI_ne (by omega), f1.2 _ _ (by omega) (by omega) (by omega)]; exact hM.2.2⟩
          have hR2 : SRw (hm_wI m1 197 (q.length + 1) (Int32.ofNat (1 + i))) (q ++ [1 + i]) := by
            refine ⟨by rw [wI_ne (by omega), f1.2 _ _ (by omega) (by omega) (by omega)]; exact hR.1, fun j hj => ?_⟩
            rw [List.length_append] at hj
            simp only [List.length_cons, List.length_nil] at hj
            by_cases e : j = q.length
            · rw [e, wI_at, getD_e]
            · rw [wI_ne (by omega), f1.2 _ _ (by omega) (by omega) (by omega), getD_l _ _ _ (by omega)]
              exact hR.2 j (by omega)
          have hB2 : BR (hm_wI m1 197 (q.length + 1) (Int32.ofNat (1 + i))) n ((cat g (1 + i)).foldl (uq w c q s l) st) := ⟨by rw [wI_ne (by omega)]; exact B1.1, B1.2.1, fun g' hg' j hj => by rw [wI_ne (by omega)]; exact B1.2.2 g' hg' j hj⟩
          have ql : (q ++ [1 + i]).length = q.length + 1 := by rw [List.length_append]; rfl
          obtain ⟨m2, k1, k2, k3⟩ := v_tries hn h3 hc k D (q ++ [1 + i]) (U ||| 2 ^ (1 + i)) (1 + i) (rop w s (c l (1 + i))) _ _ (by omega) (by rw [ql]; omega) (or_lt hU (by omega)) (fun x hx' => by
            rcases List.mem_append.mp hx' with y | y
            · exact ⟨(hx x y).1, (hx x y).2.1, by rw [bit_or, (hx x y).2.2]; rfl⟩
            · have := List.mem_singleton.mp y
              subst this
              exact ⟨by omega, by omega, by rw [bit_or]; simp⟩) (by
            rw [List.nodup_append]
            refine ⟨hnd, by simp, fun a ha b hb' => ?_⟩
            have := List.mem_singleton.mp hb'
            subst this
            intro e
            rw [e] at ha
            have := (hx _ ha).2.2
            rw [hb] at this
            cases this) (by rw [ql]; show _ = (q ++ [1 + i]).getD q.length 0; rw [getD_e]) (by omega) (by rw [bit_or]; simp) (rop_le hs (hc l (1 + i))) hM2 hR2 hB2
          rw [ql] at k1 k3
          refine ⟨_, m2, ⟨rfl, ?_, ⟨k3.1.trans f1.1, fun a j z1 z2 z3 => by rw [k3.2 a j (by omega) z2 z3, wI_ne (by omega), f1.2 a j z1 z2 z3]⟩⟩, fun F => ?_⟩
          · rw [st1, gp, List.foldl_map]
            have e : (fun b y => uq w c q s l b ((1 + i) :: y)) = uq w c (q ++ [1 + i]) (rop w s (c l (1 + i))) (1 + i) := funext fun b => funext fun r => uq_c
            rw [e]
            exact k2
          · rw [f_X10_triesRing_L99, v_mny, n54, Option.bind_some, if_neg (by rw [n_le (by omega) (by omega)]; omega), v_isIn (by omega) hp8, Option.bind_some, hb, if_pos (show zb false = 0 from rfl), sd_n (by omega) (by decide), Option.bind_some, show (1 : Int32) = Int32.ofNat 1 from rfl, n_sub (by omega), show q.length + 1 - 1 = q.length by omega, ld_n (by omega) (by decide), Option.bind_some, wI_ne (by omega), hql, v_with hn hM2 hc hs hln (by omega) hlne, Option.bind_some, n_add, show (Int32.ofNat 1 : Int32) = 1 from rfl, n_shl _ (by omega), n_or (by omega) (p2_lt hp8), k1, Option.bind_some]
            unfold f_X10_triesRing_J156
            rw [show Int32.ofNat (1 + i) + 1 = Int32.ofNat (1 + (i + 1)) from n_add _ 1]
      · obtain ⟨rfl, B1, f1⟩ := hI
        refine ⟨m1, ?_, by rw [show 1 + (n - 1) = n by omega] at B1; exact B1, f1⟩
        rw [f_X10_triesRing_L99, v_mny, show m1.1 181 54 = Int32.ofNat n by rw [f1.2 _ _ (by omega) (by omega) (by omega)]; exact hM.1, Option.bind_some, if_pos (by rw [n_le (by omega) (by omega)]; omega)]
    · rw [if_neg (by rw [n_lt (by omega) (by omega)]; exact z), uq_no hs (by omega)]
      exact ⟨m, rfl, hB, fTr_refl _ m⟩
end
