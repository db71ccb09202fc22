section
/-! The words of orders. -/
def ew (ρ : Nat → Int32) (D : Nat) (la lo : Int32) (k : Nat) : Int32 := if k = 0 then ρ 24 else if k = 1 then Int32.ofNat D else if k = 2 then la else if k = 3 then Int32.ofNat (hc ρ (nat (ρ 54)) / 2) else if k = 4 then lo else if k < 13 then (if k - 5 < nat (ρ 54) then ρ (k - 5) else -1) else (if k - 13 < nat (ρ 54) then Int32.ofNat (pop (hx ρ (k - 13))) else -1)
theorem ew_ne {ρ : Nat → Int32} {D : Nat} {la lo lo' : Int32} {k : Nat} (h : k ≠ 4) : ew ρ D la lo' k = ew ρ D la lo k := by
  unfold ew
  rw [if_neg h, if_neg h]
theorem ew_c {ρ : Nat → Int32} {D : Nat} {la lo : Int32} {v : Nat} (hv : v < 8) : ew ρ D la lo (5 + v) = if v < nat (ρ 54) then ρ v else -1 := by
  unfold ew
  rw [if_neg (by omega), if_neg (by omega), if_neg (by omega), if_neg (by omega), if_neg (by omega), if_pos (by omega), show 5 + v - 5 = v by omega]
theorem ew_h {ρ : Nat → Int32} {D : Nat} {la lo : Int32} {v : Nat} : ew ρ D la lo (13 + v) = if v < nat (ρ 54) then Int32.ofNat (pop (hx ρ v)) else -1 := by
  unfold ew
  rw [if_neg (by omega), if_neg (by omega), if_neg (by omega), if_neg (by omega), if_neg (by omega), if_neg (by omega), show 13 + v - 13 = v by omega]
theorem v_ov {m : hm_M} {ρ : Nat → Int32} {D : Nat} {la lo : Int32} (hρ : m.1 181 = ρ) (hD : DW ρ) (h27 : m.1 179 27 = Int32.ofNat D) (h28 : m.1 179 28 = la) (h29 : m.1 179 29 = lo) : (∀ c, 15 ≤ c → c ≤ 19 → ∀ k, f_X10_orderValue (Int32.ofNat c) k m = some (ew ρ D la lo (c - 15))) ∧ ∀ v, v ≤ 7 → f_X10_orderValue 20 (Int32.ofNat v) m = some (ew ρ D la lo (5 + v)) ∧ f_X10_orderValue 21 (Int32.ofNat v) m = some (ew ρ D la lo (13 + v)) := by
  refine ⟨fun c h1 h2 k => ?_, fun v hv => ⟨?_, ?_⟩⟩
  · have hc : c = 15 ∨ c = 16 ∨ c = 17 ∨ c = 18 ∨ c = 19 := by omega
    unfold f_X10_orderValue
    rcases hc with rfl | rfl | rfl | rfl | rfl
    · rw [if_neg (by decide), if_pos (by decide), show (24 : Int32) = Int32.ofNat 24 from rfl, ld_n (by omega) (by decide), Option.bind_some, hρ]
      rfl
    · rw [if_neg (by decide), if_neg (by decide), if_pos (by decide), h27]
      rfl
    · rw [if_neg (by decide), if_neg (by decide), if_neg (by decide), if_pos (by decide), h28]
      rfl
    · rw [if_neg (by decide), if_neg (by decide), if_neg (by decide), if_neg (by decide), if_pos (by decide), v_holdMany (by rw [hρ]; exact hD.1) (fun i hi => by rw [hρ]; exact (hD.2.1 i hi).2.2.2), Option.bind_some, hρ]
      rfl
    · rw [if_neg (by decide), if_neg (by decide), if_neg (by decide), if_neg (by decide), if_neg (by decide), if_pos (by decide), h29]
      rfl
  · unfold f_X10_orderValue
    rw [ew_c (by omega), if_neg (by decide), if_neg (by decide), if_neg (by decide), if_neg (by decide), if_neg (by decide), if_neg (by decide), if_pos (by decide), x10_P hρ hD, Option.bind_some, n_toInt (by omega)]
    by_cases z : v < nat (ρ 54)
    · rw [if_pos (show (0 : Int) ≤ v ∧ (v : Int) < nat (ρ 54) by omega), if_neg (by decide), if_pos z, show (0 : Int32) = Int32.ofNat 0 from rfl, n_add, ld_n (by omega) (by decide), Option.bind_some, hρ, Nat.zero_add]
    · rw [if_neg (show ¬ ((0 : Int) ≤ v ∧ (v : Int) < nat (ρ 54)) by omega), if_pos rfl, if_neg z]
  · unfold f_X10_orderValue
    rw [ew_h, if_neg (by decide), if_neg (by decide), if_neg (by decide), if_neg (by decide), if_neg (by decide), if_neg (by decide), if_neg (by decide), if_pos (by decide), x10_P hρ hD, Option.bind_some, n_toInt (by omega)]
    by_cases z : v < nat (ρ 54)
    · have hb := (hD.2.1 v (by omega)).2.2.2
      rw [if_pos (show (0 : Int) ≤ v ∧ (v : Int) < nat (ρ 54) by omega), if_neg (by decide), if_pos z, show (16 : Int32) = Int32.ofNat 16 from rfl, n_add, ld_n (by omega) (by decide), Option.bind_some, hρ, hb.1, v_pop10 _ hb.2, Option.bind_some]
      rfl
    · rw [if_neg (show ¬ ((0 : Int) ≤ v ∧ (v : Int) < nat (ρ 54)) by omega), if_pos rfl, if_neg z]
theorem lawIF_g {μ m : hm_M} {v : Nat} (f : ∀ j, m.1 v j = μ.1 v j) (r : m.2.2.1 = μ.2.2.1) : f_X8_lawInForce v m = f_X8_lawInForce v μ := by
  unfold f_X8_lawInForce f_X8_hasLaw hm_ldR
  rw [f 8, f 7, r]
theorem LJ_g {μ m : hm_M} {law : Option Nat} {L : List pc_K} (h : LJ μ law L) (f : ∀ a j, 205 ≤ a → m.1 a j = μ.1 a j) (l : hm_ln m = hm_ln μ) : LJ m law L := by
  rcases h with ⟨a, b⟩ | ⟨p, C, a, b, c, d⟩
  · exact Or.inl ⟨a, b⟩
  · have e1 : ∀ a, 205 ≤ a → m.1 a = μ.1 a := fun a ha => funext fun j => f a j ha
    refine Or.inr ⟨p, C, a, b, c.same (fun a h1 _ j => f a j (by omega)) l, ?_⟩
    have e : pg9 m p = pg9 μ p := funext fun j => by unfold pg9; rw [e1 _ (by omega), e1 _ (by omega)]
    rw [e]
    exact d
def fn (μ m : hm_M) : Prop := m.2 = μ.2 ∧ ∀ a j, a ≠ 115 → a ≠ 108 → a ≠ 109 → ¬ (a = 107 ∧ j = 2) → m.1 a j = μ.1 a j
theorem v_sw {μ : hm_M} {ρ : Nat → Int32} {D : Nat} {la : Int32} {fl : Int32} {law : Option Nat} {L : List pc_K} (hV : VD μ 65 ρ) (hD : DW ρ) (h6 : μ.1 112 6 = Int32.ofNat D) (h5 : μ.1 112 5 = la) (l1 : f_X8_lawInForce 65 μ = some law) (hL : LJ μ law L) (hW : hm_ln μ 109 = 8) : ∃ m, f_X2_setWords 65 fl μ = some m ∧ fn μ m ∧ ∀ k, k < 21 → m.1 115 k = ew ρ D la (if fl = 0 then 0 else Int32.ofNat (s_all L ρ (nat (ρ 54)))) k := by
  have hn := hD.1.2
  unfold f_X2_setWords
  rw [show (0 : Int32) = Int32.ofNat 0 from rfl, ld_n (by omega) (by decide), Option.bind_some, hV.2.2.2.1, sd_n (by omega) (by decide), Option.bind_some, wI_ne (by omega), h6, show (1 : Int32) = Int32.ofNat 1 from rfl, sd_n (by omega) (by decide), Option.bind_some, wI_ne (by omega), wI_ne (by omega), h5, show (2 : Int32) = Int32.ofNat 2 from rfl, sd_n (by omega) (by decide), Option.bind_some, v_countHolds (ρ := ρ) (by rw [wI_ne (by omega), wI_ne (by omega), wI_ne (by omega)]; exact hV.1) (fun i hi => by rw [wI_ne (by omega), wI_ne (by omega), wI_ne (by omega)]; exact hV.2.1 i hi) hD.1 (fun i hi => (hD.2.1 i hi).2.2.2), Option.bind_some, show (3 : Int32) = Int32.ofNat 3 from rfl, sd_n (by omega) (by decide), Option.bind_some]
  generalize hm7 : hm_wI (hm_wI (hm_wI (hm_wI μ 115 0 (ρ 24)) 115 1 (Int32.ofNat D)) 115 2 la) 115 3 (Int32.ofNat (hc ρ (nat (ρ 54)) / 2)) = m7
  have f7 : m7.2 = μ.2 ∧ ∀ a j, a ≠ 115 → m7.1 a j = μ.1 a j := ⟨by rw [← hm7]; rfl, fun a j z => by rw [← hm7, wI_ne (by omega), wI_ne (by omega), wI_ne (by omega), wI_ne (by omega)]⟩
  have k7 : ∀ k, k < 4 → m7.1 115 k = ew ρ D la (if fl = Int32.ofNat 0 then Int32.ofNat 0 else Int32.ofNat (s_all L ρ (nat (ρ 54)))) k := by
    intro k hk
    have : k = 0 ∨ k = 1 ∨ k = 2 ∨ k = 3 := by omega
    rcases this with rfl | rfl | rfl | rfl
    · rw [← hm7, wI_ne (by omega), wI_ne (by omega), wI_ne (by omega), wI_at]; rfl
    · rw [← hm7, wI_ne (by omega), wI_ne (by omega), wI_at]; rfl
    · rw [← hm7, wI_ne (by omega), wI_at]; rfl
    · rw [← hm7, wI_at]; rfl
  -- the rest, from any memory with its fifth word
  have J : ∀ m8 : hm_M, fn μ m8 → (∀ k, k < 4 → m8.1 115 k = ew ρ D la (if fl = Int32.ofNat 0 then Int32.ofNat 0 else Int32.ofNat (s_all L ρ (nat (ρ 54)))) k) → ∃ m, f_X2_setWords_J56 65 fl (if fl = Int32.ofNat 0 then Int32.ofNat 0 else Int32.ofNat (s_all L ρ (nat (ρ 54)))) (4 : Int32) m8 = some m ∧ fn μ m ∧ ∀ k, k < 21 → m.1 115 k = ew ρ D la (if fl = Int32.ofNat 0 then Int32.ofNat 0 else Int32.ofNat (s_all L ρ (nat (ρ 54)))) k := by
    intro m8 f8 k8
    generalize (if fl = Int32.ofNat 0 then Int32.ofNat 0 else Int32.ofNat (s_all L ρ (nat (ρ 54)))) = lo at k8 ⊢
    unfold f_X2_setWords_J56
    rw [show (4 : Int32) = Int32.ofNat 4 from rfl, sd_n (by omega) (by decide), Option.bind_some]
    refine lo2 (L := f_X2_setWords_L60 65 fl (fun μz15 => some μz15)) (fun k y m => y = Int32.ofNat k ∧ fn μ m ∧ (∀ i, i < 5 + k → m.1 115 i = ew ρ D la lo i) ∧ ∀ i, i < k → m.1 115 (13 + i) = ew ρ D la lo (13 + i)) (fun o => ∃ m, o = some m ∧ fn μ m ∧ ∀ k, k < 21 → m.1 115 k = ew ρ D la lo k) 8 (fun k y m hk hI => Or.inl ?_) (fun y m hI F => ?_) (fu_lt (by omega)) ⟨rfl, ⟨f8.1, fun a j z1 z2 z3 z4 => by rw [wI_ne (by omega)]; exact f8.2 a j z1 z2 z3 z4⟩, fun i hi => ?_, fun i hi => absurd hi (Nat.not_lt_zero _)⟩
    · obtain ⟨rfl, f, g1, g2⟩ := hI
      have hVm : ∀ a j, 65 ≤ a → a ≤ 74 → m.1 a j = μ.1 a j := fun a j z1 z2 => f.2 a j (by omega) (by omega) (by omega) (by omega)
      have hb := (hD.2.1 k hk).2.2.2
      have has : f_X8_has 65 (Int32.ofNat k) m = some (if k < nat (ρ 54) then 1 else 0) := by
        rw [v_has, hVm _ _ (by omega) (by omega), hV.1, bd_int hD.1 (by decide), n_toInt (by omega)]
        by_cases z : k < nat (ρ 54)
        · rw [if_pos (show (0 : Int) ≤ k ∧ (k : Int) < nat (ρ 54) by omega), if_pos z]
        · rw [if_neg (show ¬ ((0 : Int) ≤ k ∧ (k : Int) < nat (ρ 54)) by omega), if_neg z]
      refine ⟨_, hm_wI (hm_wI m 115 (5 + k) (ew ρ D la lo (5 + k))) 115 (13 + k) (ew ρ D la lo (13 + k)), ⟨rfl, ⟨f.1, fun a j z1 z2 z3 z4 => by rw [wI_ne (by omega), wI_ne (by omega)]; exact f.2 a j z1 z2 z3 z4⟩, fun i hi => ?_, fun i hi => ?_⟩, fun F => ?_⟩
      · rw [wI_ne (by omega)]
        by_cases z : i = 5 + k
        · rw [z, wI_at]
        · rw [wI_ne (by omega)]; exact g1 i (by omega)
      · by_cases z : i = k
        · rw [z, wI_at]
        · rw [wI_ne (by omega), wI_ne (by omega)]; exact g2 i (by omega)
      · rw [f_X2_setWords_L60, if_neg (by rw [show (8 : Int32) = Int32.ofNat 8 from rfl, n_le (by omega) (by omega)]; omega), has, Option.bind_some, ew_c hk, ew_h]
        unfold f_X2_setWords_J96 f_X2_setWords_J122
        by_cases z : k < nat (ρ 54)
        · rw [if_pos z, if_neg (by decide), if_pos z, if_pos z, ld_n (by omega) (by decide), Option.bind_some, hVm _ _ (by omega) (by omega), (hV.2.2.1 k hk).1, show (5 : Int32) = Int32.ofNat 5 from rfl, n_add, sd_n (by omega) (by decide), Option.bind_some, if_neg (by decide), ld_n (by omega) (by decide), Option.bind_some, wI_ne (by omega), hVm _ _ (by omega) (by omega), hV.2.1 k hk, hb.1, v_popJ _ hb.2, Option.bind_some, show (13 : Int32) = Int32.ofNat 13 from rfl, n_add, sd_n (by omega) (by decide), Option.bind_some, show Int32.ofNat k + 1 = Int32.ofNat (k + 1) from n_add k 1]
          rfl
        · rw [if_neg z, if_pos rfl, if_neg z, if_neg z, show (5 : Int32) = Int32.ofNat 5 from rfl, n_add, sd_n (by omega) (by decide), Option.bind_some, if_pos rfl, show (13 : Int32) = Int32.ofNat 13 from rfl, n_add, sd_n (by omega) (by decide), Option.bind_some, show Int32.ofNat k + 1 = Int32.ofNat (k + 1) from n_add k 1]
    · obtain ⟨rfl, f, g1, g2⟩ := hI
      refine ⟨m, ?_, f, fun k hk => ?_⟩
      · rw [f_X2_setWords_L60, if_pos (by decide)]
      · by_cases z : k < 13
        · exact g1 k z
        · have := g2 (k - 13) (by omega)
          rw [show 13 + (k - 13) = k by omega] at this
          exact this
    · by_cases z : i = 4
      · rw [z, wI_at]; rfl
      · rw [wI_ne (by omega)]; exact k8 i (by omega)
  by_cases z : fl = Int32.ofNat 0
  · rw [if_pos z]
    have := J m7 ⟨f7.1, fun a j z1 _ _ _ => f7.2 a j z1⟩ k7
    rw [if_pos z] at this
    rw [if_pos z]
    exact this
  · have hV7 : VD m7 65 ρ := by
      obtain ⟨v1, v2, v3, v4, v5⟩ := hV
      refine ⟨by rw [f7.2 _ _ (by omega)]; exact v1, fun i hi => by rw [f7.2 _ _ (by omega)]; exact v2 i hi, fun i hi => ?_, by rw [f7.2 _ _ (by omega)]; exact v4, by rw [f7.2 _ _ (by omega)]; exact v5⟩
      rw [f7.2 _ _ (by omega), f7.2 _ _ (by omega), f7.2 _ _ (by omega)]
      exact v3 i hi
    have L7 : LJ m7 law L := LJ_g hL (fun a j z => f7.2 a j (by omega)) (congrArg (fun z => z.2.2.2.2) f7.1)
    have l7 : f_X8_lawInForce 65 m7 = some law := (lawIF_g (fun j => f7.2 _ _ (by omega)) (congrArg (fun z => z.2.1) f7.1)).trans l1
    obtain ⟨m8, q1, q2⟩ := v_lost9 (n := nat (ρ 54)) (by omega) (by rw [hV7.1]; exact hD.1.1) (fun i hi => ⟨hV7.2.1 i hi, (hD.2.1 i hi).2.2.2⟩) hD.b hV7.2.2 (by unfold vO; omega) l7 L7 (by rw [show hm_ln m7 = hm_ln μ from congrArg (fun z => z.2.2.2.2) f7.1]; exact hW)
    rw [if_neg z, q2, b2_some]
    have := J m8 ⟨q1.1.trans f7.1, fun a j z1 z2 z3 z4 => by rw [q1.2 a j z2 z3 z4, f7.2 a j z1]⟩ (fun k hk => by rw [q1.2 _ _ (by omega) (by omega) (by omega)]; exact k7 k hk)
    rw [if_neg z] at this
    rw [if_neg z]
    exact this
/-- what does not ask for a word -/
theorem mq_ind {e e1 : Nat → Int32} {W : Nat} {prog : Nat → Int32 × Int32} {to : Nat} (he : ∀ k, k ≠ 4 → e1 k = e k) (hp : ∀ k, k < to → (prog k).1 = 1 → (prog k).2 ≠ 4) : ∀ (n a : Nat) (st : List Int32), mq_run e1 W prog to n a st = mq_run e W prog to n a st := by
  have hs : ∀ (c : Int32 × Int32) (a : Nat) (st : List Int32), (c.1 = 1 → c.2 ≠ 4) → mq_step e1 W c a st = mq_step e W c a st := by
    intro c a st hc
    unfold mq_step
    by_cases h1 : c.1 = 1
    · have hc := hc h1
      by_cases h : st.length < 64 ∧ bd c.2 W
      · have hk : nat c.2 ≠ 4 := fun z => hc (by rw [h.2.1, z]; rfl)
        simp only [if_pos h, he _ hk]
      · simp only [if_neg h]
    · simp only [if_neg h1]
  intro n
  induction n with
  | zero => intro a st; rfl
  | succ n ih =>
    intro a st
    unfold mq_run
    by_cases h : to ≤ a
    · rw [if_pos h, if_pos h]
    · rw [if_neg h, if_neg h, hs _ _ _ (hp a (by omega))]
      simp only [ih]
theorem mq_end {e : Nat → Int32} {W : Nat} {prog : Nat → Int32 × Int32} {b : Nat} (m : Nat) (st : List Int32) : mq_run e W prog b m b st = some st := by
  cases m with
  | zero => rfl
  | succ m => unfold mq_run; rw [if_pos (Nat.le_refl _)]
theorem sg_ind {e e1 : Nat → Int32} {W : Nat} {prog : Nat → Int32 × Int32} {a b : Nat} {s s1 : Option Int32} (hab : a ≤ b) (g : sg e W prog a b s 50) (g1 : sg e1 W prog a b s1 50) (he : ∀ k, k ≠ 4 → e1 k = e k) (hp : ∀ k, k < b → (prog k).1 = 1 → (prog k).2 ≠ 4) : s1 = s := by
  obtain ⟨m, -, q⟩ := g b [] (b - a) (Nat.le_refl _) (by omega) (by simp)
  obtain ⟨m1, -, q1⟩ := g1 b [] (b - a) (Nat.le_refl _) (by omega) (by simp)
  rw [mq_ind he hp, q] at q1
  simp only [mq_end] at q1
  cases s <;> cases s1 <;> simp_all
end
