section
def finr (c : Nat → Nat → Nat) : Nat → List Nat → Bool
  | l, [] => decide (c l 0 < 1000000)
  | l, p :: r => decide (c l p < 1000000) && finr c p r
def gqs (c : Nat → Nat → Nat) (n : Nat) (ρ : Nat → Int32) (q : List Nat) (l : Nat) (st : gS) (r : List Nat) : gS := if ori (q ++ r) = true ∧ finr c l r = true then gup n (soP n ρ (q ++ r)) (q ++ r) st else st
variable {m : hm_M} {n : Nat} {c : Nat → Nat → Nat} {ρ : Nat → Int32}
theorem gqs_c {q : List Nat} {l p : Nat} {st : gS} {r : List Nat} (h : c l p < 1000000) : gqs c n ρ q l st (p :: r) = gqs c n ρ (q ++ [p]) p st r := by
  unfold gqs
  rw [show q ++ p :: r = q ++ [p] ++ r by rw [List.append_assoc]; rfl, show finr c l (p :: r) = (decide (c l p < 1000000) && finr c p r) from rfl, decide_eq_true h, Bool.true_and]
theorem gqs_n {q : List Nat} {l p : Nat} (h : ¬ c l p < 1000000) : ∀ {L : List (List Nat)} {st : gS}, (L.map (p :: ·)).foldl (gqs c n ρ q l) st = st
  | [], st => rfl
  | r :: L, st => by
    rw [List.map_cons, List.foldl_cons]
    have e : gqs c n ρ q l st (p :: r) = st := if_neg fun z => by
      have := z.2
      rw [show finr c l (p :: r) = (decide (c l p < 1000000) && finr c p r) from rfl, decide_eq_false h] at this
      cases this
    rw [e]
    exact gqs_n h
theorem gqs_F {q : List Nat} {l : Nat} : ∀ {L : List (List Nat)} {st : gS}, (L.foldl (gqs c n ρ q l) st).2.1 ≤ st.2.1 + L.length
  | [], st => by show st.2.1 ≤ st.2.1 + 0; omega
  | r :: L, st => by
    rw [List.foldl_cons, List.length_cons]
    have h1 := gqs_F (q := q) (l := l) (L := L) (st := gqs c n ρ q l st r)
    have h2 : (gqs c n ρ q l st r).2.1 ≤ st.2.1 + 1 := by
      unfold gqs gup
      split
      · split
        · exact Nat.le_refl _
        · show st.2.1 ≤ _; omega
      · omega
    omega
theorem cat_len {α : Type} {g : Nat → List α} {P : Nat} : ∀ {N : Nat}, P ≤ N → (cat g P).length ≤ (cat g N).length
  | 0, h => by rw [show P = 0 by omega]; exact Nat.le_refl _
  | N + 1, h => by
    by_cases z : P = N + 1
    · rw [z]; exact Nat.le_refl _
    · have := cat_len (g := g) (P := P) (N := N) (by omega)
      show _ ≤ (cat g N ++ g N).length
      rw [List.length_append]
      omega
def fTh (j : Nat) (m m1 : hm_M) : Prop := m1.2 = m.2 ∧ ∀ a k, ¬ (a = 197 ∧ j < k) → a ≠ 198 → a ≠ 199 → ¬ (a = 179 ∧ (k = 41 ∨ k = 42)) → m1.1 a k = m.1 a k
theorem fTh_refl (j : Nat) (m : hm_M) : fTh j m m := ⟨rfl, fun _ _ _ _ _ _ => rfl⟩
theorem v_thr (hn : n ≤ 8) (h3 : 3 ≤ n) (hc : ∀ a b, c a b ≤ 1000000) (h54 : ρ 54 = Int32.ofNat n) (hS : SNb ρ n) : ∀ (k D : Nat) (q : List Nat) (U l : Nat) (m : hm_M) (st : gS), k < D → q.length + 1 + k = n → U < 2 ^ n → (∀ x, x ∈ q → x < n ∧ x ≠ 0 ∧ U.testBit x = true) → q.Nodup → l = (0 :: q).getD q.length 0 → l < n → U.testBit l = true → m.1 181 = ρ → CR m n c → SRw m q → GR m n st → st.2.1 + (rws n k U).length ≤ 2999999 → ∃ m1, K_X10_goesThrough D (Int32.ofNat (q.length + 1)) (Int32.ofNat U) m = some m1 ∧ GR m1 n ((rws n k U).foldl (gqs c n ρ q l) st) ∧ fTh q.length m m1
  | 0, D, q, U, l, m, st, hD, hq, hU, hx, hnd, hl, hln, hUl, hρ, hC, hR, hG, hF => by
    obtain ⟨D, rfl⟩ : ∃ M, D = M + 1 := ⟨D - 1, by omega⟩
    show ∃ m1, f_X10_goesThrough (K_X10_goesThrough D) (Int32.ofNat (q.length + 1)) (Int32.ofNat U) m = some m1 ∧ GR m1 n ([[]].foldl (gqs c n ρ q l) st) ∧ fTh q.length m m1
    rw [List.foldl_cons, List.foldl_nil]
    unfold f_X10_goesThrough
    have hF : st.2.1 + 1 ≤ 2999999 := hF
    have hl' : l = q.getD (q.length - 1) 0 := by
      rw [hl, List.getD_eq_getElem?_getD, List.getD_eq_getElem?_getD, show q.length = (q.length - 1) + 1 by omega, List.getElem?_cons_succ]
      rfl
    have hq0 : m.1 197 1 = Int32.ofNat (q.getD 0 0) := hR.2 0 (by omega)
    have hql : m.1 197 q.length = Int32.ofNat l := by
      have := hR.2 (q.length - 1) (by omega)
      rw [show q.length - 1 + 1 = q.length by omega] at this
      rw [this, hl']
    have hlq : l ∈ q := by
      rw [hl', List.getD_eq_getElem?_getD, List.getElem?_eq_getElem (by omega)]
      exact List.getElem_mem _
    have h0q : q.getD 0 0 < n := by
      rw [List.getD_eq_getElem?_getD, List.getElem?_eq_getElem (by omega)]
      exact (hx _ (List.getElem_mem _)).1
    have hcl := hc l 0
    have e1 : ori (q ++ []) = decide (q.getD 0 0 < l) := by
      rw [List.append_nil]
      unfold ori
      rw [← hl']
    have e2 : gqs c n ρ q l st [] = if q.getD 0 0 < l ∧ c l 0 < 1000000 then gup n (soP n ρ q) q st else st := by
      unfold gqs
      rw [e1, List.append_nil]
      show (if decide (q.getD 0 0 < l) = true ∧ decide (c l 0 < 1000000) = true then _ else _) = _
      simp only [decide_eq_true_eq]
    have hRW : RWm m n q := fun i hi => by
      match i, hi with
      | 0, _ => exact ⟨hR.1, by show 0 < n; omega⟩
      | i + 1, hi =>
        refine ⟨hR.2 i (by omega), ?_⟩
        show q.getD i 0 < n
        rw [List.getD_eq_getElem?_getD, List.getElem?_eq_getElem (by omega)]
        exact (hx _ (List.getElem_mem _)).1
    have hCl : m.1 196 (8 * l) = Int32.ofNat (c l 0) := hC l 0 hln (by omega) (hx l hlq).2.1
    rw [v_mny, hρ, h54, Option.bind_some, if_pos (by rw [show q.length + 1 = n by omega]), show (1 : Int32) = Int32.ofNat 1 from rfl, ld_n (by omega) (by decide), Option.bind_some, n_sub (by omega), show q.length + 1 - 1 = q.length by omega, ld_n (by omega) (by decide), Option.bind_some, hql, hq0, Option.bind_some, show (8 : Int32) = Int32.ofNat 8 from rfl, n_mul, ld_n (by omega) (by decide), Option.bind_some, hCl, e2]
    by_cases y1 : q.getD 0 0 < l
    · rw [if_neg (by rw [n_le (by omega) (by omega)]; omega)]
      by_cases y2 : c l 0 < 1000000
      · rw [if_neg (by rw [show (1000000 : Int32) = Int32.ofNat 1000000 from rfl, n_le (by omega) (by omega)]; omega), if_pos ⟨y1, y2⟩]
        obtain ⟨m1, k1, k2, k3⟩ := v_cR hn (by omega) hρ h54 hS hRW hG (by omega)
        exact ⟨m1, by rw [k1, Option.bind_some], k2, k3.1, fun a j z1 z2 z3 z4 => k3.2 a j z4 z2 z3⟩
      · rw [if_pos (by rw [show (1000000 : Int32) = Int32.ofNat 1000000 from rfl, n_le (by omega) (by omega)]; omega), if_neg fun z => y2 z.2]
        exact ⟨m, rfl, hG, fTh_refl _ m⟩
    · rw [if_pos (by rw [n_le (by omega) (by omega)]; omega), if_neg fun z => y1 z.1]
      exact ⟨m, rfl, hG, fTh_refl _ m⟩
  | k + 1, D, q, U, l, m, st, hD, hq, hU, hx, hnd, hl, hln, hUl, hρ, hC, hR, hG, hF => by
    obtain ⟨D, rfl⟩ : ∃ M, D = M + 1 := ⟨D - 1, by omega⟩
    have h256 := p256 hn
    show ∃ m1, f_X10_goesThrough (K_X10_goesThrough D) (Int32.ofNat (q.length + 1)) (Int32.ofNat U) m = some m1 ∧ _
    unfold f_X10_goesThrough
    rw [v_mny, hρ, h54, Option.bind_some, if_neg (by rw [n_eq (by omega) (by omega)]; omega)]
    have hF : st.2.1 + (cat (fun p => if free U p = true then (rws n k (U ||| 2 ^ p)).map (p :: ·) else []) n).length ≤ 2999999 := hF
    show ∃ m1, _ ∧ GR m1 n ((cat (fun p => if free U p = true then (rws n k (U ||| 2 ^ p)).map (p :: ·) else []) n).foldl (gqs c n ρ q l) st) ∧ _
    generalize hg : (fun p => if free U p = true then (rws n k (U ||| 2 ^ p)).map (p :: ·) else []) = g at hF ⊢
    have g0 : g 0 = [] := by rw [← hg]; rfl
    have e0 : (cat g 1).foldl (gqs c n ρ q l) st = st := by
      show ([] ++ g 0).foldl _ st = st
      rw [g0]
      rfl
    refine lo2 (L := f_X10_goesThrough_L53 (K_X10_goesThrough D) (Int32.ofNat (q.length + 1)) (Int32.ofNat U) (fun m => some m)) (fun i y m1 => y = Int32.ofNat (1 + i) ∧ GR m1 n ((cat g (1 + i)).foldl (gqs c n ρ q l) st) ∧ fTh q.length m m1) (fun o => ∃ m1, o = some m1 ∧ GR m1 n ((cat g n).foldl (gqs c n ρ q l) st) ∧ fTh q.length m m1) (n - 1) (fun i y m1 hi hI => Or.inl ?_) (fun y m1 hI F => ?_) (fu_lt (by omega)) ⟨rfl, by rw [Nat.add_zero, e0]; exact hG, fTh_refl _ m⟩
    · obtain ⟨rfl, B1, f1⟩ := hI
      have r181 : m1.1 181 = ρ := by rw [← hρ]; exact funext fun j => f1.2 _ _ (by omega) (by omega) (by omega) (by omega)
      have n54 : m1.1 181 54 = Int32.ofNat n := by rw [r181]; exact h54
      have hp8 : 1 + i < 8 := by omega
      have st1 : (cat g (1 + (i + 1))).foldl (gqs c n ρ q l) st = (g (1 + i)).foldl (gqs c n ρ q l) ((cat g (1 + i)).foldl (gqs c n ρ q l) st) := foldl_cat
      cases hb : U.testBit (1 + i) with
      | true =>
        have gp : g (1 + i) = [] := by
          rw [← hg]
          refine if_neg ?_
          unfold free
          rw [hb]
          simp
        refine ⟨_, m1, ⟨rfl, by rw [st1, gp]; exact B1, f1⟩, fun F => ?_⟩
        rw [f_X10_goesThrough_L53, v_mny, n54, Option.bind_some, if_neg (by rw [n_le (by omega) (by omega)]; omega), v_isIn (by omega) hp8, Option.bind_some, hb, if_neg (show ¬ zb true = 0 by decide)]
        unfold f_X10_goesThrough_J114
        rw [show Int32.ofNat (1 + i) + 1 = Int32.ofNat (1 + (i + 1)) from n_add _ 1]
      | false =>
        have hf : free U (1 + i) = true := by
          unfold free
          rw [hb]
          simp
        have gp : g (1 + i) = (rws n k (U ||| 2 ^ (1 + i))).map ((1 + i) :: ·) := by
          rw [← hg]
          exact if_pos hf
        have hlne : l ≠ 1 + i := fun y => by rw [← y, hUl] at hb; cases hb
        have hql : m1.1 197 q.length = Int32.ofNat l := by
          rw [f1.2 _ _ (by omega) (by omega) (by omega) (by omega), hl]
          match hqq : q.length with
          | 0 => rw [show (0 :: q).getD 0 0 = 0 from rfl]; exact hR.1
          | j + 1 => exact hR.2 j (by omega)
        have hC1 : CR m1 n c := fun a b ha hb hab => by rw [f1.2 _ _ (by omega) (by omega) (by omega) (by omega)]; exact hC a b ha hb hab
        have hcl := hc l (1 + i)
        have stp : ∀ F, f_X10_goesThrough_L53 (K_X10_goesThrough D) (Int32.ofNat (q.length + 1)) (Int32.ofNat U) (fun m => some m) (F + 1) (Int32.ofNat (1 + i)) m1 = if Int32.ofNat (c l (1 + i)) = (1000000 : Int32) then f_X10_goesThrough_L53 (K_X10_goesThrough D) (Int32.ofNat (q.length + 1)) (Int32.ofNat U) (fun m => some m) F (Int32.ofNat (1 + (i + 1))) m1 else Option.bind (K_X10_goesThrough D (Int32.ofNat (q.length + 1 + 1)) (Int32.ofNat (U ||| 2 ^ (1 + i))) (hm_wI m1 197 (q.length + 1) (Int32.ofNat (1 + i)))) fun μ9 => f_X10_goesThrough_L53 (K_X10_goesThrough D) (Int32.ofNat (q.length + 1)) (Int32.ofNat U) (fun m => some m) F (Int32.ofNat (1 + (i + 1))) μ9 := fun F => by
          rw [f_X10_goesThrough_L53, v_mny, n54, Option.bind_some, if_neg (by rw [n_le (by omega) (by omega)]; omega), v_isIn (by omega) hp8, Option.bind_some, hb, if_pos (show zb false = 0 from rfl), show Int32.ofNat (q.length + 1) - 1 = Int32.ofNat q.length from n_sub (a := q.length + 1) (b := 1) (by omega), ld_n (by omega) (by decide), Option.bind_some, hql, show (8 : Int32) = Int32.ofNat 8 from rfl, n_mul, n_add, ld_n (by omega) (by decide), Option.bind_some, hC1 l (1 + i) hln (by omega) hlne]
          unfold f_X10_goesThrough_J114
          rw [sd_n (by omega) (by decide), Option.bind_some, show Int32.ofNat (q.length + 1) + 1 = Int32.ofNat (q.length + 1 + 1) from n_add _ 1, n_shl _ (by omega), n_or (by omega) (p2_lt hp8), show Int32.ofNat (1 + i) + 1 = Int32.ofNat (1 + (i + 1)) from n_add _ 1]
        by_cases hI : c l (1 + i) < 1000000
        · have hR2 : SRw (hm_wI m1 197 (q.length + 1) (Int32.ofNat (1 + i))) (q ++ [1 + i]) := by
            refine ⟨by rw [wI_ne (by omega), f1.2 _ _ (by omega) (by omega) (by omega) (by omega)]; exact hR.1, fun j hj => ?_⟩
            rw [List.length_append] at hj
            simp only [List.length_cons, List.length_nil] at hj
            by_cases e : j = q.length
            · rw [e, wI_at, getD_e]
            · rw [wI_ne (by omega), f1.2 _ _ (by omega) (by omega) (by omega) (by omega), getD_l _ _ _ (by omega)]
              exact hR.2 j (by omega)
          obtain ⟨B11, B12, B13, B14⟩ := id B1
          have hB2 : GR (hm_wI m1 197 (q.length + 1) (Int32.ofNat (1 + i))) n ((cat g (1 + i)).foldl (gqs c n ρ q l) st) := ⟨by rw [wI_ne (by omega)]; exact B11, by rw [wI_ne (by omega)]; exact B12, fun g' hg' j hj => by rw [wI_ne (by omega)]; exact B13 g' hg' j hj, fun a b ha hb => by rw [wI_ne (by omega)]; exact B14 a b ha hb⟩
          have ql : (q ++ [1 + i]).length = q.length + 1 := by rw [List.length_append]; rfl
          have hlen : ((cat g (1 + i)).foldl (gqs c n ρ q l) st).2.1 + (rws n k (U ||| 2 ^ (1 + i))).length ≤ 2999999 := by
            have a1 := gqs_F (c := c) (n := n) (ρ := ρ) (q := q) (l := l) (L := cat g (1 + i)) (st := st)
            have a2 := cat_len (g := g) (P := 1 + i + 1) (N := n) (by omega)
            have a3 : (cat g (1 + i + 1)).length = (cat g (1 + i)).length + (g (1 + i)).length := by
              show (cat g (1 + i) ++ g (1 + i)).length = _
              rw [List.length_append]
            have a4 : (g (1 + i)).length = (rws n k (U ||| 2 ^ (1 + i))).length := by rw [gp, List.length_map]
            omega
          obtain ⟨m2, k1, k2, k3⟩ := v_thr hn h3 hc h54 hS k D (q ++ [1 + i]) (U ||| 2 ^ (1 + i)) (1 + i) (hm_wI m1 197 (q.length + 1) (Int32.ofNat (1 + i))) _ (by omega) (by rw [ql]; omega) (or_lt hU (by omega)) (fun x hx' => by
            rcases List.mem_append.mp hx' with y | y
            · exact ⟨(hx x y).1, (hx x y).2.1, by rw [bit_or, (hx x y).2.2]; rfl⟩
            · have := List.mem_singleton.mp y
              subst this
              exact ⟨by omega, by omega, by rw [bit_or]; simp⟩) (by
            rw [List.nodup_append]
            refine ⟨hnd, by simp, fun a ha b hb' => ?_⟩
            have := List.mem_singleton.mp hb'
            subst this
            intro e
            rw [e] at ha
            have := (hx _ ha).2.2
            rw [hb] at this
            cases this) (by rw [ql]; show _ = (q ++ [1 + i]).getD q.length 0; rw [getD_e]) (by omega) (by rw [bit_or]; simp) (by rw [← r181]; exact funext fun j => wI_ne (by omega)) (fun a b ha hb hab => by rw [wI_ne (by omega)]; exact hC1 a b ha hb hab) hR2 hB2 hlen
          rw [ql] at k1 k3
          refine ⟨_, m2, ⟨rfl, ?_, ⟨k3.1.trans f1.1, fun a j z1 z2 z3 z4 => by rw [k3.2 a j (by omega) z2 z3 z4, wI_ne (by omega), f1.2 a j z1 z2 z3 z4]⟩⟩, fun F => ?_⟩
          · rw [st1, gp, List.foldl_map]
            have e : (fun b y => gqs c n ρ q l b ((1 + i) :: y)) = gqs c n ρ (q ++ [1 + i]) (1 + i) := funext fun b => funext fun r => gqs_c hI
            rw [e]
            exact k2
          · rw [stp, if_neg (by rw [show (1000000 : Int32) = Int32.ofNat 1000000 from rfl, n_eq (by omega) (by omega)]; omega), k1, Option.bind_some]
        · refine ⟨_, m1, ⟨rfl, by rw [st1, gp, gqs_n hI]; exact B1, f1⟩, fun F => ?_⟩
          rw [stp, if_pos (by rw [show (1000000 : Int32) = Int32.ofNat 1000000 from rfl, n_eq (by omega) (by omega)]; omega)]
    · obtain ⟨rfl, B1, f1⟩ := hI
      refine ⟨m1, ?_, by rw [show 1 + (n - 1) = n by omega] at B1; exact B1, f1⟩
      rw [f_X10_goesThrough_L53, v_mny, show m1.1 181 54 = Int32.ofNat n by rw [f1.2 _ _ (by omega) (by omega) (by omega) (by omega), hρ]; exact h54, Option.bind_some, if_pos (by rw [n_le (by omega) (by omega)]; omega)]
def FG (c : Nat → Nat → Nat) (n : Nat) (ρ : Nat → Int32) : gS := if 3 ≤ n then (rws n (n - 1) 1).foldl (gqs c n ρ [] 0) (0, 0, none, fun _ _ => 0) else (0, 0, none, fun _ _ => 0)
theorem v_laysR {L : List pc_K} (hn : n ≤ 8) (hρ : m.1 181 = ρ) (h54 : ρ 54 = Int32.ofNat n) (hS : SNb ρ n) (hR : bR ρ) (hL : FL ρ L) : ∃ m1, f_X10_laysRings m = some m1 ∧ GR m1 n (FG (cc8 (dC 0 L ρ)) n ρ) ∧ fG m m1 := by
  obtain ⟨m3, c1, c2, c3⟩ := v_costs (μ := m) (L := L) (n := n) false hn (by rw [hρ]; exact h54) (by rw [hρ]; exact hR) (by rw [hρ]; exact hL)
  have c2 : CRd m3 n (dC 0 L (m.1 181)) := c2
  rw [hρ] at c2
  unfold f_X10_laysRings
  rw [show f_X10_laysCosts 0 m = _ from c1, Option.bind_some, pI_some, Option.bind_some, pI_some, Option.bind_some, show hm_sd (hm_wI (hm_wI m3 179 41 0) 179 42 0) 197 8 0 0 = some (hm_wI (hm_wI (hm_wI m3 179 41 0) 179 42 0) 197 0 0) from sd_n (n := 0) (by omega) (by decide), Option.bind_some]
  generalize hm6 : hm_wI (hm_wI (hm_wI m3 179 41 0) 179 42 0) 197 0 0 = m6
  have f6 : m6.2 = m3.2 ∧ ∀ a j, ¬ (a = 179 ∧ (j = 41 ∨ j = 42)) → a ≠ 197 → m6.1 a j = m3.1 a j := ⟨by rw [← hm6]; rfl, fun a j z1 z2 => by rw [← hm6, wI_ne (by omega), wI_ne (by omega), wI_ne (by omega)]⟩
  have k41 : m6.1 179 41 = 0 := by rw [← hm6, wI_ne (by omega), wI_ne (by omega), wI_at]
  have k42 : m6.1 179 42 = 0 := by rw [← hm6, wI_ne (by omega), wI_at]
  have k97 : m6.1 197 0 = 0 := by rw [← hm6, wI_at]
  refine lo2 (L := f_X10_laysRings_L24 _) (fun k y m7 => y = Int32.ofNat k ∧ m7.2 = m6.2 ∧ (∀ a j, a ≠ 199 → m7.1 a j = m6.1 a j) ∧ ∀ j, j < k → m7.1 199 j = 0) (fun o => ∃ m1, o = some m1 ∧ GR m1 n (FG (cc8 (dC 0 L ρ)) n ρ) ∧ fG m m1) 64 (fun k y m7 hk hI => Or.inl ?_) (fun y m7 hI F => ?_) (fu_lt (by omega)) ⟨rfl, rfl, fun _ _ _ => rfl, fun j hj => absurd hj (Nat.not_lt_zero _)⟩
  · obtain ⟨rfl, i1, i2, i3⟩ := hI
    refine ⟨_, hm_wI m7 199 k 0, ⟨rfl, i1, fun a j z => by rw [wI_ne (by omega)]; exact i2 a j z, fun j hj => ?_⟩, fun F => ?_⟩
    · by_cases e : j = k
      · rw [e, wI_at]
      · rw [wI_ne (by omega)]; exact i3 j (by omega)
    · rw [f_X10_laysRings_L24, if_neg (by rw [show (64 : Int32) = Int32.ofNat 64 from rfl, n_le (by omega) (by omega)]; omega), sd_n (by omega) (by decide), Option.bind_some, show Int32.ofNat k + 1 = Int32.ofNat (k + 1) from n_add k 1]
  · obtain ⟨rfl, i1, i2, i3⟩ := hI
    have r181 : m7.1 181 = ρ := by rw [← hρ]; exact funext fun j => by rw [i2 _ _ (by omega), f6.2 _ _ (by omega) (by omega), c3.2 _ _ (by omega) (by omega) (by omega)]
    have G7 : GR m7 n (0, 0, none, fun _ _ => 0) := ⟨by rw [i2 _ _ (by omega)]; exact k41, by rw [i2 _ _ (by omega)]; exact k42, (fun g hg => by cases hg), fun a b ha hb => i3 _ (by omega)⟩
    have F7 : fG m m7 := ⟨by rw [i1, f6.1]; exact c3.1, fun a j z1 z2 z3 => by rw [i2 a j (by omega), f6.2 a j (by omega) (by omega), c3.2 a j z1 (by omega) (by omega)]⟩
    rw [f_X10_laysRings_L24, if_pos (by decide), v_mny, r181, h54, Option.bind_some]
    unfold FG
    by_cases h3 : 3 ≤ n
    · rw [if_neg (by rw [show (3 : Int32) = Int32.ofNat 3 from rfl, n_lt (by omega) (by omega)]; omega), if_pos h3]
      have h4 : 2 ^ 2 ≤ 2 ^ n := Nat.pow_le_pow_right (by decide) (by omega)
      have hlen := len_rws hn (n - 1) 1
      have hl7 : 8 ^ (n - 1) ≤ 8 ^ 7 := Nat.pow_le_pow_right (by decide) (by omega)
      have h87 : 8 ^ 7 = 2097152 := by decide
      obtain ⟨m1, t1, t2, t3⟩ := v_thr (c := cc8 (dC 0 L ρ)) hn h3 (cc8_I (dC_c9 hR)) h54 hS (n - 1) 40 [] 1 0 m7 (0, 0, none, fun _ _ => 0) (by omega) (by show 0 + 1 + (n - 1) = n; omega) (by omega) (fun x hx => by cases hx) List.nodup_nil rfl (by omega) (by decide) r181 (fun a b ha hb hab => by
        rw [i2 _ _ (by omega), f6.2 _ _ (by omega) (by omega), c2.cr a b ha hb hab]
        exact congrArg Int32.ofNat (if_pos ⟨by omega, by omega⟩ : cc8 _ a b = _).symm) ⟨by rw [i2 _ _ (by omega)]; exact k97, fun i hi => absurd hi (Nat.not_lt_zero _)⟩ G7 (by show 0 + _ ≤ _; omega)
      rw [show F_X10_goesThrough 1 1 m7 = some m1 from t1, Option.bind_some]
      exact ⟨m1, rfl, t2, t3.1.trans F7.1, fun a j z1 z2 z3 => by rw [t3.2 a j (by omega) (by omega) (by omega) (by omega)]; exact F7.2 a j z1 z2 z3⟩
    · rw [if_pos (by rw [show (3 : Int32) = Int32.ofNat 3 from rfl, n_lt (by omega) (by omega)]; omega), if_neg h3]
      exact ⟨m7, rfl, G7, F7⟩
end
