section
/-! The component runs an order once. -/
def fT (μ m : hm_M) : Prop := m.2 = μ.2 ∧ ∀ a j, ¬ (a = 107 ∧ j = 2) → ¬ (a = 113 ∧ j = 2) → a ≠ 108 → a ≠ 109 → a ≠ 114 → a ≠ 115 → m.1 a j = μ.1 a j
theorem fT_trans {μ m m1 : hm_M} (h : fT μ m) (g : fT m m1) : fT μ m1 := ⟨g.1.trans h.1, fun a j z1 z2 z3 z4 z5 z6 => (g.2 a j z1 z2 z3 z4 z5 z6).trans (h.2 a j z1 z2 z3 z4 z5 z6)⟩
theorem fm_fT {μ m : hm_M} (h : fm 113 μ m) : fT μ m := ⟨h.1, fun a j z1 z2 z3 z4 z5 z6 => h.2 a j z5 z2⟩
theorem fn_fT {μ m : hm_M} (h : fn μ m) : fT μ m := ⟨h.1, fun a j z1 z2 z3 z4 z5 z6 => h.2 a j z6 z3 z4 z1⟩
def fC (μ m : hm_M) : Prop := m.2 = μ.2 ∧ ∀ a j, ¬ (a = 66 ∨ a = 67 ∨ a = 69 ∨ (a = 70 ∧ j = 0)) → ¬ (87 ≤ a ∧ a ≤ 111) → ¬ (a = 112 ∧ (j = 5 ∨ j = 6)) → ¬ (113 ≤ a ∧ a ≤ 115) → m.1 a j = μ.1 a j
theorem fC_refl (μ : hm_M) : fC μ μ := ⟨rfl, fun _ _ _ _ _ _ => rfl⟩
theorem fC_trans {μ m m1 : hm_M} (h : fC μ m) (g : fC m m1) : fC μ m1 := ⟨g.1.trans h.1, fun a j z1 z2 z3 z4 => (g.2 a j z1 z2 z3 z4).trans (h.2 a j z1 z2 z3 z4)⟩
theorem fT_fC {μ m : hm_M} (h : fT μ m) : fC μ m := ⟨h.1, fun a j z1 z2 z3 z4 => h.2 a j (by omega) (by omega) (by omega) (by omega) (by omega) (by omega)⟩
/-- what stands still while orders are run -/
def BASE (μ : hm_M) (C : pc_C) (L Lw : List pc_K) (law : Option Nat) : Prop := PGM μ 151 C L ∧ (∀ k ∈ L, clOK 21 (pg9 μ 151) k ∧ k.1.2.2.2.2.1 ≤ C.length) ∧ fl5 (μ.1 151 5) true C ∧ f_X8_lawInForce 65 μ = some law ∧ LJ μ law Lw ∧ hm_ln μ 109 = 8 ∧ hm_ln μ 115 = 21
theorem BASE.fC {μ m : hm_M} {C : pc_C} {L Lw : List pc_K} {law : Option Nat} (h : BASE μ C L Lw law) (f : fC μ m) : BASE m C L Lw law := by
  obtain ⟨h1, h2, h3, h4, h5, h6, h7⟩ := h
  have el : hm_ln m = hm_ln μ := congrArg (fun z => z.2.2.2.2) f.1
  have f2 : ∀ a j, a = 65 ∨ 116 ≤ a → m.1 a j = μ.1 a j := fun a j z => f.2 a j (by omega) (by omega) (by omega) (by omega)
  have ep : pg9 m 151 = pg9 μ 151 := funext fun j => by unfold pg9; rw [f2 _ _ (by omega), f2 _ _ (by omega)]
  refine ⟨h1.same (fun a z _ j => f2 a j (by omega)) el, by rw [ep]; exact h2, by rw [f2 _ _ (by omega)]; exact h3, (lawIF_g (fun j => f2 _ _ (by omega)) (congrArg (fun z => z.2.1) f.1)).trans h4, LJ_g h5 (fun a j z => f2 a j (by omega)) el, by rw [el]; exact h6, by rw [el]; exact h7⟩
theorem VD.g {μ m : hm_M} {ρ : Nat → Int32} (h : VD μ 65 ρ) (f : ∀ a j, 65 ≤ a → a ≤ 70 → m.1 a j = μ.1 a j) : VD m 65 ρ := by
  obtain ⟨v1, v2, v3, v4, v5⟩ := h
  refine ⟨by rw [f _ _ (by omega) (by omega)]; exact v1, fun i hi => by rw [f _ _ (by omega) (by omega)]; exact v2 i hi, fun i hi => ?_, by rw [f _ _ (by omega) (by omega)]; exact v4, by rw [f _ _ (by omega) (by omega)]; exact v5⟩
  rw [f _ _ (by omega) (by omega), f _ _ (by omega) (by omega), f _ _ (by omega) (by omega)]
  exact v3 i hi
variable {μ : hm_M} {C : pc_C} {L Lw : List pc_K} {law : Option Nat}
theorem seg9 {m : hm_M} {e : Nat → Int32} {a b : Nat} {s : pc_S} (hB : BASE μ C L Lw law) (f : fT μ m) (he : ∀ k, k < 21 → m.1 115 k = e k) (hs : sgz 21 (pg9 μ 151) a b s) (hb : b ≤ C.length) : ∃ m2, fm 113 m m2 ∧ ((s e = none ∧ m2.1 113 2 = 1 ∧ f_X4_run 113 151 (Int32.ofNat a) (Int32.ofNat b) m = some (0, m2)) ∨ ∃ v, s e = some v ∧ m2.1 113 2 = 0 ∧ f_X4_run 113 151 (Int32.ofNat a) (Int32.ofNat b) m = some (v, m2)) := by
  have hB' := hB.fC (fT_fC f)
  have e21 : hm_ln m (113 + 2) = 21 := hB'.2.2.2.2.2.2
  have ep : pg9 m 151 = pg9 μ 151 := funext fun j => by unfold pg9; rw [f.2 _ _ (by omega) (by omega) (by omega) (by omega) (by omega) (by omega), f.2 _ _ (by omega) (by omega) (by omega) (by omega) (by omega) (by omega)]
  exact x4_seg (o := 113) (by omega) hB'.1 (by rw [e21]; omega) (fun k hk => he k (by omega)) (by rw [e21, ep]; exact hs) hb
/-- the words that are not asked for don't matter -/
theorem ee_sg {e e1 : Nat → Int32} {a b : Nat} {s s1 : Option Int32} (hB : BASE μ C L Lw law) (h0 : μ.1 151 5 = 0) (hab : a ≤ b) (hb : b ≤ C.length) (g : sg e 21 (pg9 μ 151) a b s 50) (g1 : sg e1 21 (pg9 μ 151) a b s1 50) (he : ∀ k, k ≠ 4 → e1 k = e k) : s1 = s := by
  refine sg_ind hab g g1 he fun k hk h1 => ?_
  rcases hB.2.2.1 with z | ⟨-, z⟩
  · rw [h0] at z; exact absurd z (by decide)
  · have hk2 : k < C.length := by omega
    have ec : C[k]? = some C[k] := List.getElem?_eq_getElem hk2
    have := hB.1.mt k _ (Nat.zero_le _) ec
    rw [this] at h1 ⊢
    exact z rfl k _ ec h1
theorem ee_z {e e1 : Nat → Int32} {a b : Nat} {s : pc_S} (hB : BASE μ C L Lw law) (h0 : μ.1 151 5 = 0) (hb : b ≤ C.length) (g : sgz 21 (pg9 μ 151) a b s) (he : ∀ k, k ≠ 4 → e1 k = e k) : s e1 = s e := by
  rcases g with ⟨-, rfl⟩ | ⟨h1, -, h3⟩
  · rfl
  · exact ee_sg hB h0 (by omega) hb (h3 e) (h3 e1) he
def REST (h : Nat) (x y : Int32) (m : hm_M) : Option (Int32 × hm_M) :=
  Option.bind (f_X7_note 87 65 m) fun μ14 => hm_b2 (f_X1_doOne 65 (Int32.ofNat h) x y μ14) fun x15 μ16 => (if 0 ≤ x15 then Option.bind (f_X7_keepNoted 87 (Int32.ofNat h) μ16) fun μ18 => Option.bind (hm_pI μ18 112 6 ((μ18.1 112 6) + (1 : Int32))) fun μ19 => (if Int32.ofNat h = 0 then Option.bind (hm_pI μ19 112 5 x15) fun μ21 => some ((1 : Int32), μ21) else Option.bind (hm_pI μ19 112 5 (μ19.1 112 5)) fun μ20 => some ((1 : Int32), μ20)) else some ((0 : Int32), μ16))
theorem x2_once {ρ : Nat → Int32} {D q : Nat} {la : Int32} {K : pc_K} (hB : BASE μ C L Lw law) (hV : VD μ 65 ρ) (hD : DW ρ) (h6 : μ.1 112 6 = Int32.ofNat D) (h5 : μ.1 112 5 = la) (hK : L[q]? = some K) : ∃ m3, fT μ m3 ∧ ((tt K.2.2.2 (ew ρ D la (Int32.ofNat (s_all Lw ρ (nat (ρ 54))))) = false ∧ f_X2_runOnce (Int32.ofNat q) 65 87 μ = some (1, m3)) ∨ (tt K.2.2.2 (ew ρ D la (Int32.ofNat (s_all Lw ρ (nat (ρ 54))))) = true ∧ (((K.2.1 (ew ρ D la (Int32.ofNat (s_all Lw ρ (nat (ρ 54))))) = none ∨ K.2.2.1 (ew ρ D la (Int32.ofNat (s_all Lw ρ (nat (ρ 54))))) = none) ∧ f_X2_runOnce (Int32.ofNat q) 65 87 μ = some (0, m3)) ∨ ∃ x y, K.2.1 (ew ρ D la (Int32.ofNat (s_all Lw ρ (nat (ρ 54))))) = some x ∧ K.2.2.1 (ew ρ D la (Int32.ofNat (s_all Lw ρ (nat (ρ 54))))) = some y ∧ f_X2_runOnce (Int32.ofNat q) 65 87 μ = REST K.1.1 x y m3))) := by
  obtain ⟨hP, hcl, hfl, l1, hLJ, hW, -⟩ := id hB
  have hq : q < L.length := (List.getElem?_eq_some_iff.mp hK).1
  obtain ⟨⟨k1, k2, k3, k4, ⟨k5, k6⟩, -⟩, k7⟩ := hcl K (List.mem_of_getElem? hK)
  have hc4 := hP.1.1
  obtain ⟨r0, r1, r2, r3, r4, r5⟩ := hP.2.2.2.2.2.2 q K hK
  generalize he : ew ρ D la (Int32.ofNat (s_all Lw ρ (nat (ρ 54)))) = e
  obtain ⟨m6, s1, s2, s3⟩ := v_sw (fl := μ.1 151 5) hV hD h6 h5 l1 hLJ hW
  generalize he1 : ew ρ D la (if μ.1 151 5 = 0 then 0 else Int32.ofNat (s_all Lw ρ (nat (ρ 54)))) = e1 at s3
  have he4 : ∀ k, k ≠ 4 → e1 k = e k := fun k hk => by rw [← he, ← he1]; exact ew_ne hk
  have e01 : μ.1 151 5 ≠ 0 → e1 = e := fun z => by rw [← he, ← he1, if_neg z]
  have hle1 : K.1.2.1 ≤ K.1.2.2.1 := by rcases k1 with ⟨z, -⟩ | ⟨z, -⟩ <;> omega
  have hle2 : K.1.2.2.1 ≤ K.1.2.2.2.1 := by rcases k2 with ⟨z, -⟩ | ⟨z, -⟩ <;> omega
  have hle3 : K.1.2.2.2.1 ≤ K.1.2.2.2.2.1 := by
    cases ht : K.2.2.2 with
    | none => rw [ht] at k3; exact Nat.le_of_eq k3
    | some t => rw [ht] at k3; exact Nat.le_of_lt k3.1
  have z1 : K.2.1 e1 = K.2.1 e := by
    by_cases z : μ.1 151 5 = 0
    · exact ee_z hB z (by omega) k1 he4
    · rw [e01 z]
  have z2 : K.2.2.1 e1 = K.2.2.1 e := by
    by_cases z : μ.1 151 5 = 0
    · exact ee_z hB z (by omega) k2 he4
    · rw [e01 z]
  have J : ∀ m4, fT μ m4 → (∀ k, k < 21 → m4.1 115 k = e1 k) → ∃ m3, fT μ m3 ∧ (((K.2.1 e = none ∨ K.2.2.1 e = none) ∧ f_X2_runOnce_J58 (Int32.ofNat q) 65 87 (Int32.ofNat K.1.2.2.1) (Int32.ofNat K.1.2.2.2.1) m4 = some (0, m3)) ∨ ∃ x y, K.2.1 e = some x ∧ K.2.2.1 e = some y ∧ f_X2_runOnce_J58 (Int32.ofNat q) 65 87 (Int32.ofNat K.1.2.2.1) (Int32.ofNat K.1.2.2.2.1) m4 = REST K.1.1 x y m3) := by
    intro m4 f4 w4
    have P4 := (hB.fC (fT_fC f4)).1
    have c4 : ∀ j, m4.1 (151 + 3) j = μ.1 (151 + 3) j := fun j => f4.2 _ _ (by omega) (by omega) (by omega) (by omega) (by omega) (by omega)
    obtain ⟨m5, g1, g2⟩ := seg9 (e := e1) hB f4 w4 k1 (by omega)
    have f5 := fT_trans f4 (fm_fT g1)
    unfold f_X2_runOnce_J58
    rw [show (1 : Int32) = Int32.ofNat 1 from rfl, x5_part P4 hq (by omega), Option.bind_some, c4, r1]
    rcases g2 with ⟨g3, g4, g5⟩ | ⟨x, g3, g4, g5⟩
    · refine ⟨m5, f5, Or.inl ⟨Or.inl (z1 ▸ g3), ?_⟩⟩
      rw [g5, b2_some, g4, if_neg (by decide)]
    · obtain ⟨m7, o1, o2⟩ := seg9 (e := e1) hB f5 (fun k hk => by rw [g1.2 _ _ (by omega) (by omega)]; exact w4 k hk) k2 (by omega)
      have f7 := fT_trans f5 (fm_fT o1)
      rw [g5, b2_some, g4, if_pos rfl]
      rcases o2 with ⟨o3, o4, o5⟩ | ⟨y, o3, o4, o5⟩
      · refine ⟨m7, f7, Or.inl ⟨Or.inr (z2 ▸ o3), ?_⟩⟩
        rw [o5, b2_some, o4, if_neg (by decide)]
      · refine ⟨m7, f7, Or.inr ⟨x, y, z1 ▸ g3, z2 ▸ o3, ?_⟩⟩
        have P7 := (hB.fC (fT_fC f7)).1
        have c7 : m7.1 (151 + 3) (6 * q + 0) = Int32.ofNat K.1.1 := by rw [f7.2 _ _ (by omega) (by omega) (by omega) (by omega) (by omega) (by omega)]; exact r0
        rw [o5, b2_some, o4, if_pos rfl, show (0 : Int32) = Int32.ofNat 0 from rfl, x5_part P7 hq (by omega), Option.bind_some, c7]
        rfl
  unfold f_X2_runOnce
  rw [show (2 : Int32) = Int32.ofNat 2 from rfl, x5_part hP hq (by omega), Option.bind_some, show (3 : Int32) = Int32.ofNat 3 from rfl, x5_part hP hq (by omega), Option.bind_some, show (4 : Int32) = Int32.ofNat 4 from rfl, x5_part hP hq (by omega), Option.bind_some, s1, Option.bind_some, r2, r3, r4]
  cases ht : K.2.2.2 with
  | none =>
    rw [ht] at k3
    rw [if_pos (by rw [show K.1.2.2.2.1 = K.1.2.2.2.2.1 from k3])]
    obtain ⟨m3, p1, p2⟩ := J m6 (fn_fT s2) s3
    exact ⟨m3, p1, Or.inr ⟨rfl, p2⟩⟩
  | some t =>
    rw [ht] at k3
    obtain ⟨t1, t2, t3⟩ := k3
    rw [if_neg (by rw [n_eq (by omega) (by omega)]; omega)]
    have f6 := fn_fT s2
    have B6 := hB.fC (fT_fC f6)
    have e21 : hm_ln m6 (113 + 2) = 21 := B6.2.2.2.2.2.2
    have ep : pg9 m6 151 = pg9 μ 151 := funext fun j => by unfold pg9; rw [f6.2 _ _ (by omega) (by omega) (by omega) (by omega) (by omega) (by omega), f6.2 _ _ (by omega) (by omega) (by omega) (by omega) (by omega) (by omega)]
    have zt : t e1 = t e := by
      by_cases z : μ.1 151 5 = 0
      · exact ee_sg hB z (by omega) (by omega) (t3 e) (t3 e1) he4
      · rw [e01 z]
    obtain ⟨m7, o1, o2⟩ := x4_run (o := 113) (p := 151) (μ := m6) (a := K.1.2.2.2.1) (b := K.1.2.2.2.2.1) (s := t e1) (by omega) hc4 (by omega) k7 B6.1.2.1.1 B6.1.2.2.1 B6.1.2.2.2.1 (by rw [e21]; omega) (sg_cong (by rw [e21, ep]; exact t3 e1) (fun k hk => s3 k (by omega))) (show 50 ≤ 64 by decide)
    have f7 := fT_trans f6 (fm_fT o1)
    have no : ∀ v : Int32, v ≠ 1 → tt (some t) e = false → f_X4_run 113 151 (Int32.ofNat K.1.2.2.2.1) (Int32.ofNat K.1.2.2.2.2.1) m6 = some (v, m7) → ∃ m3, fT μ m3 ∧ ((tt (some t) e = false ∧ (hm_b2 (f_X4_run 113 151 (Int32.ofNat K.1.2.2.2.1) (Int32.ofNat K.1.2.2.2.2.1) m6) fun x22 μ23 => (if x22 = (1 : Int32) then f_X2_runOnce_J58 (Int32.ofNat q) 65 87 (Int32.ofNat K.1.2.2.1) (Int32.ofNat K.1.2.2.2.1) μ23 else some ((1 : Int32), μ23))) = some (1, m3)) ∨ (tt (some t) e = true ∧ (((K.2.1 e = none ∨ K.2.2.1 e = none) ∧ (hm_b2 (f_X4_run 113 151 (Int32.ofNat K.1.2.2.2.1) (Int32.ofNat K.1.2.2.2.2.1) m6) fun x22 μ23 => (if x22 = (1 : Int32) then f_X2_runOnce_J58 (Int32.ofNat q) 65 87 (Int32.ofNat K.1.2.2.1) (Int32.ofNat K.1.2.2.2.1) μ23 else some ((1 : Int32), μ23))) = some (0, m3)) ∨ ∃ x y, K.2.1 e = some x ∧ K.2.2.1 e = some y ∧ (hm_b2 (f_X4_run 113 151 (Int32.ofNat K.1.2.2.2.1) (Int32.ofNat K.1.2.2.2.2.1) m6) fun x22 μ23 => (if x22 = (1 : Int32) then f_X2_runOnce_J58 (Int32.ofNat q) 65 87 (Int32.ofNat K.1.2.2.1) (Int32.ofNat K.1.2.2.2.1) μ23 else some ((1 : Int32), μ23))) = REST K.1.1 x y m3))) := fun v hv ht hr => ⟨m7, f7, Or.inl ⟨ht, by rw [hr, b2_some, if_neg hv]⟩⟩
    rcases o2 with ⟨o3, o4, o5⟩ | ⟨v, o3, o4, o5⟩
    · refine no 0 (by decide) ?_ o5
      show decide (t e = some 1) = false
      rw [← zt, o3]
      rfl
    · by_cases v1 : v = 1
      · obtain ⟨m3, p1, p2⟩ := J m7 f7 (fun k hk => by rw [o1.2 _ _ (by omega) (by omega)]; exact s3 k hk)
        refine ⟨m3, p1, Or.inr ⟨?_, ?_⟩⟩
        · show decide (t e = some 1) = true
          rw [← zt, o3, v1]
          rfl
        · rw [o5, b2_some, if_pos v1]
          exact p2
      · refine no v v1 ?_ o5
        show decide (t e = some 1) = false
        rw [← zt, o3]
        exact decide_eq_false fun z => v1 (by cases z; rfl)
end
