section
/-! Both sides in step. -/
def fR (m m1 : hm_M) : Prop := m1.2.2 = m.2.2 ∧ ∀ a j, ¬ (a = 181 ∧ j < 25) → ¬ (191 ≤ a ∧ a ≤ 193) → ¬ (a = 179 ∧ ((22 ≤ j ∧ j ≤ 25) ∨ (27 ≤ j ∧ j ≤ 29) ∨ j = 33 ∨ (47 ≤ j ∧ j ≤ 51))) → m1.1 a j = m.1 a j
theorem fR_refl (m : hm_M) : fR m m := ⟨rfl, fun _ _ _ _ _ => rfl⟩
theorem fR_trans {m m1 m2 : hm_M} (h : fR m m1) (g : fR m1 m2) : fR m m2 := ⟨g.1.trans h.1, fun a j z1 z2 z3 => (g.2 a j z1 z2 z3).trans (h.2 a j z1 z2 z3)⟩
theorem fo_fR {m m1 : hm_M} (h : fo m m1) : fR m m1 := ⟨h.1, fun a j z1 z2 z3 => h.2 a j (by omega) (by omega)⟩
theorem fq_fR {m m1 : hm_M} (h : fq m m1) : fR m m1 := ⟨congrArg (fun z => z.2) h.1, fun a j z1 z2 z3 => h.2 a j (by omega) (by omega)⟩
theorem fR_w {m m1 : hm_M} (h : fR m m1) {j : Nat} (hj : (27 ≤ j ∧ j ≤ 29) ∨ j = 33 ∨ (47 ≤ j ∧ j ≤ 51)) (x : Int32) : fR m (hm_wI m1 179 j x) := ⟨h.1, fun a k z1 z2 z3 => by rw [wI_ne (by omega)]; exact h.2 a k z1 z2 z3⟩
theorem SR9_g {μ m : hm_M} {s : Nat} {E : Nat → ent} (h : SR9 μ 87 s E) (f : ∀ a j, 87 ≤ a → a ≤ 105 → m.1 a j = μ.1 a j) : SR9 m 87 s E := by
  obtain ⟨q, a1, a2, a3, a4, a5⟩ := h
  refine ⟨q, a1, a2, by rw [f _ _ (by omega) (by omega)]; exact a3, by rw [f _ _ (by omega) (by omega)]; exact a4, fun i hi => ?_⟩
  have hm : (q + i) % 17 < 17 := Nat.mod_lt _ (by decide)
  have e : m.1 (87 + 2 + (q + i) % 17) = μ.1 (87 + 2 + (q + i) % 17) := funext fun j => f _ _ (by omega) (by omega)
  rw [e]
  exact a5 i hi
theorem SR10_g {m m1 : hm_M} {s : Nat} {E : Nat → ent} (h : SR10 m s E) (f1 : m1.1 179 33 = m.1 179 33) (f2 : ∀ j, m1.1 193 j = m.1 193 j) : SR10 m1 s E := by
  obtain ⟨a1, a2, a3⟩ := h
  refine ⟨a1, f1.trans a2, fun i hi => ⟨fun k hk => by rw [f2]; exact (a3 i hi).1 k hk, by rw [f2]; exact (a3 i hi).2⟩⟩
def LSt (μ0 m0 : hm_M) (ρ0 : Nat → Int32) (μ m : hm_M) (ρ : Nat → Int32) (D : Nat) (la : Int32) (s : Nat) (E : Nat → ent) : Prop := (VD μ 65 ρ ∧ SR9 μ 87 s E ∧ μ.1 112 6 = Int32.ofNat D ∧ μ.1 112 5 = la ∧ fC μ0 μ) ∧ (m.1 181 = ρ ∧ SR10 m s E ∧ m.1 179 27 = Int32.ofNat D ∧ m.1 179 28 = la ∧ fR m0 m) ∧ DW ρ ∧ (∀ k, 25 ≤ k → ρ k = ρ0 k) ∧ EOK (nat (ρ0 54)) s E
def IT (v1 : Int32) (m : hm_M) (c : hm_M → Option (Int32 × hm_M)) : Option (Int32 × hm_M) := Option.bind (f_X10_goesAlong v1 (1 : Int32) m) fun μ5 => (if (μ5.1 179 51) = 0 then c μ5 else (if (μ5.1 179 50) = 0 then some ((0 : Int32), μ5) else hm_b2 (f_X10_obeys μ5) fun x6 μ7 => (if 0 ≤ x6 then Option.bind (hm_pI μ7 179 27 ((μ7.1 179 27) + (1 : Int32))) fun μ8 => c μ8 else some ((0 : Int32), μ7))))
theorem tail_k {tk vl : Nat → Nat} {h a e1 j l j1 l1 : Nat} {C C1 : pc_C} {s1 s2 : pc_S} {K : pc_K} (hp : pc_tail tk vl h a e1 s1 s2 j l C = .ok (j1, l1, C1, K)) : K.1.1 = h ∧ K.2.1 = s1 ∧ K.2.2.1 = s2 := by
  unfold pc_tail at hp
  split at hp
  · cases hp
  · obtain ⟨j3, l3, C3, t3, e3, hp⟩ := pc_b_ok hp
    cases hp
    exact ⟨rfl, rfl, rfl⟩
theorem ord1_3 {tk vl : Nat → Nat} {i l j l1 : Nat} {C C1 : pc_C} {K : pc_K} (hp : pc_ord1 tk vl i l C = .ok (j, l1, C1, K)) (h3 : K.1.1 = 3) : K.2.1 = pc_z ∧ K.2.2.1 = pc_z := by
  unfold pc_ord1 at hp
  split at hp
  · cases hp
  · split at hp
    · exact (tail_k hp).2
    · rename_i c3
      obtain ⟨ja, la1, Ca, sa, ea, hp⟩ := pc_b_ok hp
      split at hp
      · obtain ⟨jb, lb1, Cb, sb, eb, hp⟩ := pc_b_ok hp
        rw [(tail_k hp).1] at h3
        exact absurd h3 c3
      · cases hp
theorem sm_tot (v : Int64) : ∃ a, f_X10_small v = some a := by
  unfold f_X10_small
  split
  · exact ⟨_, rfl⟩
  · split <;> exact ⟨_, rfl⟩
variable {μ0 m0 : hm_M} {ρ0 : Nat → Int32} {C : pc_C} {L Lw : List pc_K} {law : Option Nat} {N : Nat} {tk vl : Nat → Nat}
theorem ls_one {μ m : hm_M} {ρ : Nat → Int32} {D s q i l j l1 : Nat} {la : Int32} {E : Nat → ent} {K : pc_K} {C' C1' : pc_C} (hB : BASE μ0 C L Lw law) (hF : FL ρ0 Lw) (hT : TT ρ0 N tk vl) (hS : LSt μ0 m0 ρ0 μ m ρ D la s E) (hK : L[q]? = some K) (hp : pc_ord1 tk vl i l C' = .ok (j, l1, C1', K)) (hC : C'.length ≤ i) (hi : i ≤ N) (h47 : m.1 179 47 = Int32.ofNat (2400 + i)) : ∃ μ1 m1, fC μ0 μ1 ∧ fR m0 m1 ∧ m1.1 179 47 = m.1 179 47 ∧ ((f_X2_runOnce (Int32.ofNat q) 65 87 μ = some (0, μ1) ∧ ∀ c, IT (Int32.ofNat (2400 + N)) m c = some (0, m1)) ∨ ∃ ρ' D' la' s' E', f_X2_runOnce (Int32.ofNat q) 65 87 μ = some (1, μ1) ∧ (∀ c, IT (Int32.ofNat (2400 + N)) m c = c m1) ∧ LSt μ0 m0 ρ0 μ1 m1 ρ' D' la' s' E') := by
  obtain ⟨⟨a1, a2, a3, a4, a5⟩, ⟨b1, b2, b3, b4, b5⟩, hD, hk, hE⟩ := hS
  have hFρ : FL ρ Lw := FL_cong hF fun k z => hk k (by omega)
  have hTρ : TT ρ N tk vl := ⟨hD, hT.2.1, fun k z => by rw [hk _ (by omega), hk _ (by omega)]; exact hT.2.2.1 k z, hT.2.2.2⟩
  have e54 : ρ 54 = ρ0 54 := hk 54 (by omega)
  have hBμ := hB.fC a5
  have hh : K.1.1 < 4 := (hB.2.1 K (List.mem_of_getElem? hK)).1.2.2.2.2.1.1
  obtain ⟨m5, g1, g2, g3, g4, g5, g6⟩ := v_goes true hTρ b1 b3 b4 h47 hFρ hC hi hp
  obtain ⟨g7, g8, g9⟩ := g6 rfl
  obtain ⟨μ3, f3, hx⟩ := x2_once hBμ a1 hD a3 a4 hK
  generalize ew ρ D la (Int32.ofNat (s_all Lw ρ (nat (ρ 54)))) = e at g7 g9 hx
  have k47 : m5.1 179 47 = m.1 179 47 := g2.2 _ _ (by omega) (by omega)
  have V3 : VD μ3 65 ρ := a1.g fun a j z1 z2 => f3.2 a j (by omega) (by omega) (by omega) (by omega) (by omega) (by omega)
  have S3 : SR9 μ3 87 s E := SR9_g a2 fun a j z1 z2 => f3.2 a j (by omega) (by omega) (by omega) (by omega) (by omega) (by omega)
  have C3 : fC μ0 μ3 := fC_trans a5 (fT_fC f3)
  have R5 : fR m0 m5 := fR_trans b5 (fo_fR g2)
  have e181 : m5.1 181 = ρ := by rw [← b1]; exact funext fun j => g2.2 _ _ (by omega) (by omega)
  have S5 : SR10 m5 s E := SR10_g b2 (g2.2 _ _ (by omega) (by omega)) (fun j => g2.2 _ _ (by omega) (by omega))
  have go1 : f_X10_goesAlong (Int32.ofNat (2400 + N)) 1 m = some m5 := g1
  rcases hx with ⟨t0, r0⟩ | ⟨t1, ⟨sn, r0⟩ | ⟨x, y, sx, sy, r0⟩⟩
  · refine ⟨μ3, m5, C3, R5, k47, Or.inr ⟨ρ, D, la, s, E, r0, fun c => ?_, ⟨V3, S3, ?_, ?_, C3⟩, ⟨e181, S5, ?_, ?_, R5⟩, hD, hk, hE⟩⟩
    · unfold IT
      rw [go1, Option.bind_some, g7, t0, if_pos (show zb false = 0 from rfl)]
    · rw [f3.2 _ _ (by omega) (by omega) (by omega) (by omega) (by omega) (by omega)]; exact a3
    · rw [f3.2 _ _ (by omega) (by omega) (by omega) (by omega) (by omega) (by omega)]; exact a4
    · rw [g2.2 _ _ (by omega) (by omega)]; exact b3
    · rw [g2.2 _ _ (by omega) (by omega)]; exact b4
  · refine ⟨μ3, m5, C3, R5, k47, Or.inl ⟨r0, fun c => ?_⟩⟩
    have h3 : K.1.1 ≠ 3 := fun z => by
      obtain ⟨z1, z2⟩ := ord1_3 hp z
      rcases sn with sn | sn
      · rw [z1] at sn; cases sn
      · rw [z2] at sn; cases sn
    unfold IT
    rw [go1, Option.bind_some, g7, t1, if_neg (show ¬ zb true = 0 by decide), (g9 h3).1]
    have : (!(K.2.1 e).isNone && !(K.2.2.1 e).isNone) = false := by
      rcases sn with sn | sn <;> rw [sn] <;> simp
    rw [this, if_pos (show zb false = 0 from rfl)]
  · -- the order is given
    have h50 : m5.1 179 50 = 1 := by
      by_cases h3 : K.1.1 = 3
      · exact g8 h3
      · rw [(g9 h3).1, sx, sy]; rfl
    have hob : f_X10_obeys m5 = hm_b2 (F10 K.1.1 (sm x) (sm y) m5) fun r m7 => some (r, if K.1.1 = 0 ∧ 0 ≤ r then hm_wI m7 179 28 r else m7) := by
      by_cases h3 : K.1.1 = 3
      · obtain ⟨a, ha⟩ := sm_tot (m5.2.1 203 0)
        obtain ⟨b, hb⟩ := sm_tot (m5.2.1 203 1)
        rw [v_obeys hh g5 ha hb, h3, F10_3, F10_3]
      · exact v_obeys hh g5 (by rw [(g9 h3).2.1 x sx]; exact v_small x) (by rw [(g9 h3).2.2 y sy]; exact v_small y)
    have hI : ∀ c, IT (Int32.ofNat (2400 + N)) m c = hm_b2 (F10 K.1.1 (sm x) (sm y) m5) fun r m7 => (if 0 ≤ r then c (hm_wI (if K.1.1 = 0 ∧ 0 ≤ r then hm_wI m7 179 28 r else m7) 179 27 ((if K.1.1 = 0 ∧ 0 ≤ r then hm_wI m7 179 28 r else m7).1 179 27 + 1)) else some (0, if K.1.1 = 0 ∧ 0 ≤ r then hm_wI m7 179 28 r else m7)) := by
      intro c
      unfold IT
      rw [go1, Option.bind_some, g7, t1, if_neg (show ¬ zb true = 0 by decide), h50, if_neg (show ¬ (1 : Int32) = 0 by decide), hob]
      cases F10 K.1.1 (sm x) (sm y) m5 with
      | none => rfl
      | some z =>
        obtain ⟨r, m7⟩ := z
        rw [b2_some, b2_some, b2_some]
        rfl
    obtain ⟨-, -, -, l3, L3, W3, -⟩ := hBμ.fC (fT_fC f3)
    rcases deed_two (x := x) (y := y) hh hD hFρ V3 l3 L3 W3 with ⟨k, ρ1, hk1, d9, hD1, he, d10⟩ | ⟨ans, ans', k1, d9, k2, d10⟩
    · obtain ⟨u3, u5, u7, n1, n2, n3, n4, n5, n6, n7⟩ := SR9_do S3 V3 l3 L3 W3 hk1 d9
      obtain ⟨mq, mk, m1, p1, p2, p3, p4, p5⟩ := d10 m5 s e181 S5.2.1 S5.1
      have hu : mq.1 179 33 = Int32.ofNat s := by rw [p1.2 _ _ (by omega) (by omega)]; exact S5.2.1
      obtain ⟨mk', w1, w2, w3, w4, w5, w6⟩ := v_keeps (d := K.1.1) hu S5.1
      rw [p2] at w1
      cases w1
      have F7 : ∀ a j, ¬ (a = 66 ∨ a = 67 ∨ a = 69 ∨ (a = 70 ∧ j = 0)) → ¬ (87 ≤ a ∧ a ≤ 111) → u7.1 a j = μ3.1 a j := fun a j z1 z2 => n7 a j (by omega) (by omega) (by omega) (by omega) (by omega) (by omega)
      have u6 : u7.1 112 6 = Int32.ofNat D := by rw [F7 _ _ (by omega) (by omega), f3.2 _ _ (by omega) (by omega) (by omega) (by omega) (by omega) (by omega)]; exact a3
      have u5' : u7.1 112 5 = la := by rw [F7 _ _ (by omega) (by omega), f3.2 _ _ (by omega) (by omega) (by omega) (by omega) (by omega) (by omega)]; exact a4
      have C7 : fC μ0 u7 := fC_trans C3 ⟨n6, fun a j z1 z2 z3 z4 => F7 a j z1 z2⟩
      have hr : f_X2_runOnce (Int32.ofNat q) 65 87 μ = some (1, hm_wI (hm_wI u7 112 6 (Int32.ofNat (D + 1))) 112 5 (if K.1.1 = 0 then Int32.ofNat k else la)) := by
        rw [r0]
        unfold REST
        rw [n1, Option.bind_some, n2, b2_some, if_pos (show (0 : Int32) ≤ Int32.ofNat k by rw [show (0 : Int32) = Int32.ofNat 0 from rfl, n_le (by omega) (by omega)]; omega), n3, Option.bind_some, u6, show Int32.ofNat D + 1 = Int32.ofNat (D + 1) from n_add D 1, pI_some, Option.bind_some]
        by_cases h0 : K.1.1 = 0
        · rw [if_pos (show Int32.ofNat K.1.1 = 0 by rw [h0]; rfl), if_pos h0, pI_some, Option.bind_some]
        · rw [if_neg (show ¬ Int32.ofNat K.1.1 = 0 by rw [show (0 : Int32) = Int32.ofNat 0 from rfl, n_eq (by omega) (by omega)]; exact h0), if_neg h0, wI_ne (by omega), u5', pI_some, Option.bind_some]
      have k0 : (0 : Int32) ≤ Int32.ofNat k := by rw [show (0 : Int32) = Int32.ofNat 0 from rfl, n_le (by omega) (by omega)]; omega
      have fq5 : fR m5 m1 := by
        refine ⟨((congrArg (fun z => z.2) p4.1).trans (congrArg (fun z => z.2) w2.1)).trans (congrArg (fun z => z.2) p1.1), fun a j z1 z2 z3 => ?_⟩
        by_cases y : a = 181
        · rw [y, p5, e181]
          exact he j (by omega)
        · rw [p4.2 a j y (by omega) (by omega) (by omega), w2.2 a j (by omega) (by omega), p1.2 a j (by omega) (by omega)]
      have m1k : ∀ j, (j = 27 ∨ j = 28 ∨ j = 47) → m1.1 179 j = m5.1 179 j := fun j hj => by rw [p4.2 _ _ (by omega) (by omega) (by omega) (by omega), w2.2 _ _ (by omega) (by omega), p1.2 _ _ (by omega) (by omega)]
      have hmf : ∀ c, IT (Int32.ofNat (2400 + N)) m c = c (hm_wI (if K.1.1 = 0 then hm_wI m1 179 28 (Int32.ofNat k) else m1) 179 27 (Int32.ofNat (D + 1))) := by
        intro c
        rw [hI c, p3, b2_some, if_pos k0]
        have e27 : m1.1 179 27 = Int32.ofNat D := by rw [m1k 27 (by omega), g2.2 _ _ (by omega) (by omega)]; exact b3
        by_cases h0 : K.1.1 = 0
        · rw [if_pos ⟨h0, k0⟩, if_pos h0, wI_ne (by omega), e27, show Int32.ofNat D + 1 = Int32.ofNat (D + 1) from n_add D 1]
        · rw [if_neg (fun z => h0 z.1), if_neg h0, e27, show Int32.ofNat D + 1 = Int32.ofNat (D + 1) from n_add D 1]
      have iff : ∀ a j, ¬ (a = 179 ∧ j = 28) → (if K.1.1 = 0 then hm_wI m1 179 28 (Int32.ofNat k) else m1).1 a j = m1.1 a j := fun a j z => by
        split
        · exact wI_ne z
        · rfl
      have R9 : fR m0 (hm_wI (if K.1.1 = 0 then hm_wI m1 179 28 (Int32.ofNat k) else m1) 179 27 (Int32.ofNat (D + 1))) := by
        refine fR_w ?_ (by omega) _
        split
        · exact fR_w (fR_trans R5 fq5) (by omega) _
        · exact fR_trans R5 fq5
      refine ⟨_, _, ?_, R9, ?_, Or.inr ⟨ρ1, D + 1, if K.1.1 = 0 then Int32.ofNat k else la, min s 15 + 1, pE s E (K.1.1, ρ), hr, hmf, ⟨?_, ?_, ?_, ?_, ?_⟩, ⟨?_, ?_, ?_, ?_, R9⟩, hD1, fun k' hk' => (he k' hk').trans (hk k' hk'), ?_⟩⟩
      · exact ⟨C7.1, fun a j z1 z2 z3 z4 => by rw [wI_ne (by omega), wI_ne (by omega)]; exact C7.2 a j z1 z2 z3 z4⟩
      · rw [wI_ne (by omega), iff _ _ (by omega), m1k 47 (by omega), k47]
      · exact n5.g fun a j z1 z2 => by rw [wI_ne (by omega), wI_ne (by omega)]
      · exact SR9_g n4 fun a j z1 z2 => by rw [wI_ne (by omega), wI_ne (by omega)]
      · rw [wI_ne (by omega), wI_at]
      · rw [wI_at]
      · exact ⟨C7.1, fun a j z1 z2 z3 z4 => by rw [wI_ne (by omega), wI_ne (by omega)]; exact C7.2 a j z1 z2 z3 z4⟩
      · rw [← p5]
        exact funext fun j => by rw [wI_ne (by omega), iff _ _ (by omega)]
      · refine SR10_g (SR10_push (m := mq) (m1 := m1) (d := K.1.1) (ρ := ρ) (SR10_g S5 (p1.2 _ _ (by omega) (by omega)) (fun j => p1.2 _ _ (by omega) (by omega))) (by rw [← e181]; exact funext fun j => p1.2 _ _ (by omega) (by omega)) ?_ (fun j hj => ?_) (fun i hi => ?_) ?_) ?_ (fun j => ?_)
        · rw [p4.2 _ _ (by omega) (by omega) (by omega) (by omega)]; exact w3
        · rw [p4.2 _ _ (by omega) (by omega) (by omega) (by omega)]; exact w4 j hj
        · rw [p4.2 _ _ (by omega) (by omega) (by omega) (by omega)]; exact w5 i hi
        · rw [p4.2 _ _ (by omega) (by omega) (by omega) (by omega)]; exact w6
        · rw [wI_ne (by omega), iff _ _ (by omega)]
        · rw [wI_ne (by omega), iff _ _ (by omega)]
      · rw [wI_at]
      · rw [wI_ne (by omega)]
        by_cases h0 : K.1.1 = 0
        · rw [if_pos h0, if_pos h0, wI_at]
        · rw [if_neg h0, if_neg h0, m1k 28 (by omega), g2.2 _ _ (by omega) (by omega)]; exact b4
      · exact EOK_push hE hh (by rw [← e54]; exact hD.n) S5.1
    · obtain ⟨u3, u5, n1, n2, n3, n4, n5, n6⟩ := SR9_no S3 V3 l3 L3 W3 d9
      obtain ⟨m1, p1, p2⟩ := d10 m5 e181
      refine ⟨u5, m1, fC_trans C3 ⟨n5, fun a j z1 z2 z3 z4 => n6 a j (by omega) (by omega) (by omega) (by omega) (by omega) (by omega)⟩, fR_trans R5 (fq_fR p2), by rw [p2.2 _ _ (by omega) (by omega)]; exact k47, Or.inl ⟨?_, fun c => ?_⟩⟩
      · rw [r0]
        unfold REST
        rw [n1, Option.bind_some, n2, b2_some, if_neg (rk_n k1).1]
      · rw [hI c, p1, b2_some, if_neg (rk_n k2).1, if_neg (fun z => (rk_n k2).1 z.2)]
end
