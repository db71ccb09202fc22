section
/-! The best ring of all, as both find it. -/
def rUpd (Q : List Nat → Bool) (T : List Nat → Nat) (st : Nat × Option (List Nat)) (r : List Nat) : Nat × Option (List Nat) := if Q r = true ∧ T r < st.1 then (T r, some r) else st
theorem fold_best (Q : List Nat → Bool) (T : List Nat → Nat) : ∀ (l : List (List Nat)) (st : Nat × Option (List Nat)), (l.foldl (rUpd Q T) st = st ∧ ∀ r, r ∈ l → Q r = true → st.1 ≤ T r) ∨ ((l.foldl (rUpd Q T) st).1 < st.1 ∧ (∀ r, r ∈ l → Q r = true → (l.foldl (rUpd Q T) st).1 ≤ T r) ∧ (l.foldl (rUpd Q T) st).2 = l.find? (fun r => Q r && decide (T r = (l.foldl (rUpd Q T) st).1)) ∧ ∃ r, r ∈ l ∧ Q r = true ∧ T r = (l.foldl (rUpd Q T) st).1)
  | [], st => Or.inl ⟨rfl, fun r h => by cases h⟩
  | x :: l, st => by
    show (l.foldl (rUpd Q T) (rUpd Q T st x) = st ∧ _) ∨ _
    rw [List.foldl_cons]
    by_cases h : Q x = true ∧ T x < st.1
    · have e : rUpd Q T st x = (T x, some x) := if_pos h
      rw [e]
      have ih := fold_best Q T l (T x, some x)
      generalize l.foldl (rUpd Q T) (T x, some x) = q at ih ⊢
      refine Or.inr ?_
      rcases ih with ⟨rfl, h2⟩ | ⟨h1, h2, h3, r, h4, h5, h6⟩
      · refine ⟨h.2, fun r hr hq => ?_, ?_, x, List.mem_cons_self, h.1, rfl⟩
        · rcases List.mem_cons.mp hr with rfl | hr
          · exact Nat.le_refl _
          · exact h2 r hr hq
        · rw [List.find?_cons, show (Q x && decide (T x = T x)) = true by rw [h.1]; simp]
      · have h1 : q.1 < T x := h1
        refine ⟨Nat.lt_trans h1 h.2, fun r hr hq => ?_, ?_, r, List.mem_cons_of_mem _ h4, h5, h6⟩
        · rcases List.mem_cons.mp hr with rfl | hr
          · exact Nat.le_of_lt h1
          · exact h2 r hr hq
        · rw [List.find?_cons, show (Q x && decide (T x = q.1)) = false by rw [decide_eq_false (by omega)]; simp]
          exact h3
    · have e : rUpd Q T st x = st := if_neg h
      rw [e]
      have ih := fold_best Q T l st
      generalize l.foldl (rUpd Q T) st = q at ih ⊢
      rcases ih with ⟨h1, h2⟩ | ⟨h1, h2, h3, r, h4, h5, h6⟩
      · refine Or.inl ⟨h1, fun r hr hq => ?_⟩
        rcases List.mem_cons.mp hr with rfl | hr
        · exact Nat.le_of_not_lt fun z => h ⟨hq, z⟩
        · exact h2 r hr hq
      · refine Or.inr ⟨h1, fun r hr hq => ?_, ?_, r, List.mem_cons_of_mem _ h4, h5, h6⟩
        · rcases List.mem_cons.mp hr with rfl | hr
          · have : ¬ T r < st.1 := fun z => h ⟨hq, z⟩
            omega
          · exact h2 r hr hq
        · rw [List.find?_cons]
          have : (Q x && decide (T x = q.1)) = false := by
            by_cases hq : Q x = true
            · have : ¬ T x < st.1 := fun z => h ⟨hq, z⟩
              rw [decide_eq_false (by omega)]; simp
            · simp only [Bool.not_eq_true] at hq
              rw [hq]; rfl
          rw [this]
          exact h3
theorem find_sub {α : Type} {P R : α → Bool} {l : List α} {g : α} (h : l.find? P = some g) (hR : R g = true) (hs : ∀ r, R r = true → P r = true) : l.find? R = some g := by
  rw [List.find?_eq_some_iff_append] at h ⊢
  obtain ⟨-, as, bs, e, h2⟩ := h
  refine ⟨hR, as, bs, e, fun a ha => ?_⟩
  have := h2 a ha
  cases hr : R a
  · rfl
  · rw [hs a hr] at this; cases this
theorem nodup_rev {l : List Nat} (h : l.Nodup) : l.reverse.Nodup := by
  unfold List.Nodup at h ⊢
  rw [List.pairwise_reverse]
  exact h.imp fun z => z.symm
theorem rev_mem {n k U : Nat} {r : List Nat} (h : r ∈ rws n k U) : r.reverse ∈ rws n k U := by
  obtain ⟨h1, h2, h3⟩ := mem_rws.mp h
  exact mem_rws.mpr ⟨by rw [List.length_reverse]; exact h1, nodup_rev h2, fun x hx => h3 x (List.mem_reverse.mp hx)⟩
/-- the second before the last -/
def ori (r : List Nat) : Bool := decide (r.getD 0 0 < r.getD (r.length - 1) 0)
theorem getD_rev {r : List Nat} (h : 1 ≤ r.length) : r.reverse.getD 0 0 = r.getD (r.length - 1) 0 ∧ r.reverse.getD (r.reverse.length - 1) 0 = r.getD 0 0 := by
  rw [List.getD_eq_getElem?_getD, List.getD_eq_getElem?_getD, List.getD_eq_getElem?_getD, List.getD_eq_getElem?_getD, List.getElem?_reverse (by omega), List.length_reverse, List.getElem?_reverse (by omega), show r.length - 1 - 0 = r.length - 1 by omega, show r.length - 1 - (r.length - 1) = 0 by omega]
  exact ⟨rfl, rfl⟩
theorem ends_ne {r : List Nat} (h : r.Nodup) (h2 : 2 ≤ r.length) : r.getD 0 0 ≠ r.getD (r.length - 1) 0 := by
  rw [List.getD_eq_getElem?_getD, List.getD_eq_getElem?_getD, List.getElem?_eq_getElem (by omega), List.getElem?_eq_getElem (by omega)]
  intro e
  have e : r[0] = r[r.length - 1] := e
  exact List.pairwise_iff_getElem.mp h 0 (r.length - 1) (by omega) (by omega) (by omega) e
theorem ori_rev {r : List Nat} (h : r.Nodup) (h2 : 2 ≤ r.length) : ori r.reverse = !ori r := by
  unfold ori
  rw [(getD_rev (by omega)).1, (getD_rev (by omega)).2]
  have := ends_ne h h2
  by_cases z : r.getD 0 0 < r.getD (r.length - 1) 0
  · rw [decide_eq_true z, decide_eq_false (by omega)]; rfl
  · rw [decide_eq_false z, decide_eq_true (by omega)]; rfl
variable {w : Bool} {c : Nat → Nat → Nat} {n : Nat}
theorem Grd_ori {B k : Nat} {g : List Nat} (hs : ∀ a b, c a b = c b a) (hk : 1 ≤ k) (hB : rop w 0 (Hc w c n (k + 1) 1 0) ≤ B) (hg : Grd w c n B (k + 1) 1 0 0 g) : g ∈ rws n (k + 1) 1 ∧ rop w 0 (pth w c 0 0 g) ≤ B ∧ ori g = true := by
  have hf := Grd_find hB hg
  have hm := List.mem_of_find?_eq_some hf
  have hp := List.find?_some hf
  simp only [decide_eq_true_eq] at hp
  refine ⟨hm, hp, ?_⟩
  obtain ⟨m1, m2, m3⟩ := mem_rws.mp hm
  cases ho : ori g
  · exfalso
    have h1 := rev_mem hm
    have h2 := ori_rev m2 (by omega)
    have h3 : pth w c 0 0 g.reverse = pth w c 0 0 g := pth_rev hs
    obtain ⟨p, q, rfl, ⟨g1, g2, g3⟩, g4, g5⟩ := hg
    rw [ho] at h2
    have hx : (p :: q).reverse.getD 0 0 < p := by
      have := of_decide_eq_true h2
      rw [(getD_rev (r := p :: q) (by rw [m1]; omega)).2] at this
      exact this
    generalize (p :: q).reverse = r at h1 h3 hx
    obtain ⟨n1, n2, n3⟩ := mem_rws.mp h1
    match r, n1, h1, h3, hx, n3 with
    | x :: r, n1, h1, h3, hx, n3 =>
      have hx : x < p := hx
      have a1 := g4 x hx (n3 x List.mem_cons_self).2
      obtain ⟨y, hy, hr⟩ := mem_cat.mp h1
      split at hr
      · obtain ⟨r', hr', e⟩ := List.mem_map.mp hr
        cases e
        have a2 := Hc_le (w := w) (c := c) (l := x) hr'
        have a3 : rop w (rop w 0 (c 0 x)) (Hc w c n k (1 ||| 2 ^ x) x) ≤ rop w 0 (pth w c 0 0 (x :: r)) := by
          rw [rop_as]
          exact rop_mo (rop_mo a2)
        rw [h3] at a3
        omega
      · cases hr
  · rfl
theorem ring_pure {k : Nat} (hs : ∀ a b, c a b = c b a) (hc : ∀ a b, c a b ≤ 1000000) (hk : 1 ≤ k) : (Hc w c n (k + 1) 1 0 = 1000000 → (rws n (k + 1) 1).foldl (rUpd ori (pth w c 0 0)) (1000000, none) = (1000000, none)) ∧ (Hc w c n (k + 1) 1 0 < 1000000 → ∃ g, Grd w c n (Hc w c n (k + 1) 1 0) (k + 1) 1 0 0 g ∧ g.length = k + 1 ∧ (∀ x, x ∈ g → x < n) ∧ (rws n (k + 1) 1).foldl (rUpd ori (pth w c 0 0)) (1000000, none) = (Hc w c n (k + 1) 1 0, some g)) := by
  have hI := Hc_I (w := w) (n := n) hc (k + 1) 1 0
  have fb := fold_best ori (pth w c 0 0) (rws n (k + 1) 1) (1000000, none)
  generalize hq : (rws n (k + 1) 1).foldl (rUpd ori (pth w c 0 0)) (1000000, none) = q at fb
  refine ⟨fun h => ?_, fun h => ?_⟩
  · rcases fb with ⟨h1, -⟩ | ⟨h1, -, -, r, h4, -, h6⟩
    · exact h1
    · have := Hc_le (w := w) (c := c) (l := 0) h4
      have h1 : q.1 < 1000000 := h1
      omega
  · have h0 : rop w 0 (Hc w c n (k + 1) 1 0) ≤ Hc w c n (k + 1) 1 0 := by rw [rop_0 hI]; exact Nat.le_refl _
    obtain ⟨g, hg⟩ := Grd_ex (w := w) (c := c) (n := n) (B := Hc w c n (k + 1) 1 0) hc h (Nat.zero_le _) h0
    obtain ⟨g1, g2, g3⟩ := Grd_ori hs hk h0 hg
    have gf := Grd_find h0 hg
    obtain ⟨m1, m2, m3⟩ := mem_rws.mp g1
    have g4 := Hc_le (w := w) (c := c) (l := 0) g1
    rw [rop_0 (pth_I hc)] at g2
    have g5 : pth w c 0 0 g = Hc w c n (k + 1) 1 0 := by omega
    refine ⟨g, hg, m1, fun x hx => (m3 x hx).1, ?_⟩
    rcases fb with ⟨h1, h2⟩ | ⟨h1, h2, h3, r, h4, h5, h6⟩
    · have : 1000000 ≤ pth w c 0 0 g := h2 g g1 g3
      omega
    · have a1 := h2 g g1 g3
      have a2 := Hc_le (w := w) (c := c) (l := 0) h4
      have e : q.1 = Hc w c n (k + 1) 1 0 := by omega
      refine Prod.ext e ?_
      rw [h3, e]
      refine find_sub gf ?_ fun r hr => ?_
      · rw [g3, g5]; simp
      · simp only [Bool.and_eq_true, decide_eq_true_eq] at hr
        rw [hr.2]
        exact decide_eq_true h0
/-- a table of the least ways -/
def lowB (S l : Nat) : Prop := ∀ x, x < l → S.testBit x = false
def TB (w : Bool) (c : Nat → Nat → Nat) (n : Nat) (t : Nat → Nat → Nat) : Prop := ∀ S l, S < 2 ^ n → l < n → S.testBit l = true → (S = 2 ^ l → t S l = 0) ∧ (S ≠ 2 ^ l → lowB S l → t S l = 1000000) ∧ (¬ lowB S l → t S l = mn (fun p => if p ≠ l ∧ S.testBit p = true then rop w (t (S ^^^ 2 ^ l) p) (c p l) else 1000000) n)
def wh (n U l : Nat) : Nat := (((2 ^ n - 1) &&& (U ^^^ (2 ^ n - 1))) ||| 1) ||| 2 ^ l
theorem wh_bit {n U l x : Nat} : (wh n U l).testBit x = ((decide (x < n) && !U.testBit x) || decide (x = 0) || decide (x = l)) := by
  unfold wh
  rw [bit_or, show (1 : Nat) = 2 ^ 0 from rfl, bit_or, Nat.testBit_and, Nat.testBit_xor, Nat.testBit_two_pow_sub_one]
  by_cases z : x < n
  · rw [decide_eq_true z]; simp
  · rw [decide_eq_false z]; simp
theorem bit_xp {S p x : Nat} : (S ^^^ 2 ^ p).testBit x = (S.testBit x != decide (x = p)) := by
  rw [Nat.testBit_xor, Nat.testBit_two_pow]
  by_cases z : x = p
  · subst z; simp
  · have : ¬ p = x := fun y => z y.symm
    simp [z, this]
def cn (f : Nat → Bool) : Nat → Nat
  | 0 => 0
  | m + 1 => cn f m + (f m).toNat
theorem cn_0 {f : Nat → Bool} : ∀ {m : Nat}, cn f m = 0 → ∀ p, p < m → f p = false
  | 0, _, p, h => absurd h (Nat.not_lt_zero _)
  | m + 1, h, p, hp => by
    have h : cn f m + (f m).toNat = 0 := h
    by_cases z : p = m
    · rw [z]
      cases hf : f m
      · rfl
      · rw [hf] at h; simp at h
    · exact cn_0 (m := m) (by omega) p (by omega)
theorem cn_cg {f g : Nat → Bool} : ∀ {m : Nat}, (∀ p, p < m → f p = g p) → cn f m = cn g m
  | 0, _ => rfl
  | m + 1, h => by
    show cn f m + (f m).toNat = cn g m + (g m).toNat
    rw [cn_cg (m := m) fun p hp => h p (by omega), h m (by omega)]
theorem cn_del {f : Nat → Bool} {p : Nat} (hf : f p = true) : ∀ {m : Nat}, p < m → cn (fun x => f x && decide (x ≠ p)) m + 1 = cn f m
  | 0, h => absurd h (Nat.not_lt_zero _)
  | m + 1, h => by
    show cn (fun x => f x && decide (x ≠ p)) m + (f m && decide (m ≠ p)).toNat + 1 = cn f m + (f m).toNat
    by_cases z : p = m
    · have e : cn (fun x => f x && decide (x ≠ p)) m = cn f m := cn_cg fun q hq => by
        rw [decide_eq_true (show q ≠ p by omega)]; simp
      rw [e, ← z, hf]
      simp
    · have := cn_del hf (m := m) (by omega)
      rw [decide_eq_true (show m ≠ p by omega)]
      simp only [Bool.and_true]
      omega
theorem lt_two {S n : Nat} (h : ∀ x, S.testBit x = true → x < n) : S < 2 ^ n := by
  rcases Nat.lt_or_ge S (2 ^ n) with z | z
  · exact z
  · obtain ⟨i, h1, h2⟩ := Nat.exists_ge_and_testBit_of_ge_two_pow z
    have := h i h2
    omega
theorem TB_H {t : Nat → Nat → Nat} (ht : TB w c n t) (hs : ∀ a b, c a b = c b a) (hc : ∀ a b, c a b ≤ 1000000) : ∀ {k U l : Nat}, U.testBit 0 = true → U.testBit l = true → l ≠ 0 → l < n → cn (free U) n = k → t (wh n U l) l = Hc w c n k U l
  | 0, U, l, h0, hl, l0, ln, hk => by
    have hz : ∀ x, x < n → x ≠ 0 → U.testBit x = true := fun x hx hx0 => by
      have := cn_0 hk x hx
      unfold free at this
      rw [decide_eq_true hx0] at this
      simpa using this
    have hb : ∀ x, (wh n U l).testBit x = (decide (x = 0) || decide (x = l)) := fun x => by
      rw [wh_bit]
      by_cases z : x < n ∧ x ≠ 0
      · rw [hz x z.1 z.2]; simp
      · by_cases y : x = 0
        · simp [y]
        · rw [decide_eq_false (show ¬ x < n by omega)]; simp
    have hlt : wh n U l < 2 ^ n := lt_two fun x hx => by
      rw [hb] at hx
      simp only [Bool.or_eq_true, decide_eq_true_eq] at hx
      omega
    obtain ⟨-, -, h3⟩ := ht (wh n U l) l hlt ln (by rw [hb]; simp)
    have nl : ¬ lowB (wh n U l) l := fun z => by
      have := z 0 (by omega)
      rw [hb] at this
      simp at this
    have e1 : wh n U l ^^^ 2 ^ l = 2 ^ 0 := Nat.eq_of_testBit_eq fun x => by
      rw [bit_xp, hb, Nat.testBit_two_pow]
      by_cases y : x = l
      · subst y
        have : ¬ 0 = x := fun z => l0 z.symm
        simp [l0, this]
      · by_cases y0 : x = 0
        · subst y0; simp [y]
        · have : ¬ 0 = x := fun z => y0 z.symm
          simp [y, y0, this]
    obtain ⟨t1, -, -⟩ := ht (2 ^ 0) 0 (Nat.pow_lt_pow_right (by decide) (by omega)) (by omega) (by decide)
    rw [h3 nl, e1]
    show _ = c l 0
    have v : ∀ p, p < n → (if p ≠ l ∧ (wh n U l).testBit p = true then rop w (t (2 ^ 0) p) (c p l) else 1000000) = if p = 0 then c l 0 else 1000000 := fun p hp => by
      by_cases y : p = 0
      · rw [y, if_pos ⟨fun z => l0 z.symm, by rw [hb]; simp⟩, if_pos rfl, t1 rfl, rop_0 (hc _ _), hs]
      · rw [if_neg y, if_neg]
        rintro ⟨z1, z2⟩
        rw [hb] at z2
        simp only [Bool.or_eq_true, decide_eq_true_eq] at z2
        omega
    rw [mn_cg v]
    have a1 := mn_le (f := fun p => if p = 0 then c l 0 else 1000000) (p := 0) (m := n) (by omega)
    have a1 : mn (fun p => if p = 0 then c l 0 else 1000000) n ≤ c l 0 := a1
    rcases Nat.lt_or_ge (mn (fun p => if p = 0 then c l 0 else 1000000) n) 1000000 with z | z
    · obtain ⟨p, hp, e⟩ := mn_ex z
      by_cases y : p = 0
      · rw [if_pos y] at e; exact e.symm
      · rw [if_neg y] at e; omega
    · have := hc l 0
      omega
  | k + 1, U, l, h0, hl, l0, ln, hk => by
    have hb : ∀ x, (wh n U l).testBit x = ((decide (x < n) && !U.testBit x) || decide (x = 0) || decide (x = l)) := fun x => wh_bit
    have hlt : wh n U l < 2 ^ n := lt_two fun x hx => by
      rw [hb] at hx
      simp only [Bool.or_eq_true, Bool.and_eq_true, decide_eq_true_eq] at hx
      omega
    obtain ⟨-, -, h3⟩ := ht (wh n U l) l hlt ln (by rw [hb]; simp)
    have nl : ¬ lowB (wh n U l) l := fun z => by
      have := z 0 (by omega)
      rw [hb] at this
      simp at this
    rw [h3 nl]
    show _ = mn _ n
    refine mn_cg fun p hp => ?_
    have bx : ∀ x, (wh n U l ^^^ 2 ^ l).testBit x = ((decide (x < n) && !U.testBit x) || decide (x = 0)) := fun x => by
      rw [bit_xp, hb]
      by_cases y : x = l
      · subst y
        rw [hl]
        simp [l0]
      · simp [y]
    by_cases hf : free U p = true
    · have hf2 := hf
      unfold free at hf2
      simp only [Bool.and_eq_true, decide_eq_true_eq, Bool.not_eq_true'] at hf2
      have pl : p ≠ l := fun z => by rw [z, hl] at hf2; cases hf2.2
      rw [if_pos ⟨pl, by rw [hb, decide_eq_true hp, hf2.2]; rfl⟩, if_pos hf]
      have e1 : wh n U l ^^^ 2 ^ l = wh n (U ||| 2 ^ p) p := Nat.eq_of_testBit_eq fun x => by
        rw [bx, wh_bit, bit_or]
        by_cases y : x = p
        · subst y
          rw [hf2.2, decide_eq_true hp]
          simp
        · simp [y]
      have ih := TB_H ht hs hc (k := k) (U := U ||| 2 ^ p) (l := p) (by rw [bit_or, h0]; rfl) (by rw [bit_or]; simp) hf2.1 hp (by
        have := cn_del hf hp
        have e : cn (free (U ||| 2 ^ p)) n = cn (fun x => free U x && decide (x ≠ p)) n := cn_cg fun x _ => free_or
        omega)
      rw [e1, ih, rop_cm, hs p l]
    · rw [if_neg hf]
      by_cases y : p = 0
      · subst y
        by_cases z : (0 : Nat) ≠ l ∧ (wh n U l).testBit 0 = true
        · rw [if_pos z]
          have hS : wh n U l ^^^ 2 ^ l < 2 ^ n := lt_two fun x hx => by
            rw [bx] at hx
            simp only [Bool.or_eq_true, Bool.and_eq_true, decide_eq_true_eq] at hx
            omega
          obtain ⟨-, t2, -⟩ := ht (wh n U l ^^^ 2 ^ l) 0 hS (by omega) (by rw [bx]; simp)
          have ne : wh n U l ^^^ 2 ^ l ≠ 2 ^ 0 := fun z => by
            have hz : cn (free U) n = 0 := by
              have : ∀ x, x < n → free U x = false := fun x hx => by
                have e := congrArg (fun q => q.testBit x) z
                simp only [bx] at e
                rw [Nat.testBit_two_pow, decide_eq_true hx] at e
                unfold free
                by_cases x0 : x = 0
                · subst x0; simp
                · have : ¬ 0 = x := fun z => x0 z.symm
                  simp only [this, x0, decide_false, Bool.or_false, Bool.true_and] at e
                  simp [e]
              have e : cn (free U) n = cn (fun _ => false) n := cn_cg this
              rw [e]
              clear e this
              have : ∀ m, cn (fun _ => false) m = 0 := fun m => by
                induction m with
                | zero => rfl
                | succ m ih => show cn (fun _ => false) m + 0 = 0; omega
              exact this n
            omega
          rw [t2 ne (fun x hx => absurd hx (Nat.not_lt_zero _)), rop_I (hc _ _)]
        · rw [if_neg z]
      · refine if_neg ?_
        rintro ⟨z1, z2⟩
        rw [hb] at z2
        have : U.testBit p = true := by
          cases hu : U.testBit p
          · unfold free at hf
            rw [hu, decide_eq_true y] at hf
            exact absurd rfl hf
          · rfl
        rw [this] at z2
        simp only [Bool.not_true, Bool.and_false, Bool.false_or, Bool.or_eq_true, decide_eq_true_eq] at z2
        omega
end
