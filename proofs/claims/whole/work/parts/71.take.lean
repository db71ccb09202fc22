section
/-! take, loose, walk, pass, undo. -/
theorem VR_new {μ μ2 : hm_M} {ρ ρ1 : Nat → Int32} (h : VR μ 65 ρ) (hV : VD μ2 65 ρ1) (hD : DW ρ1) (e : ∀ k, 25 ≤ k → ρ1 k = ρ k) (h2 : μ2.2.2 = μ.2.2) (f : ∀ a j, (a = 65 ∧ j ≠ 0) ∨ (a = 70 ∧ j ≠ 0) ∨ (72 ≤ a ∧ a ≤ 74) ∨ 205 ≤ a → μ2.1 a j = μ.1 a j) : VR μ2 65 ρ1 := by
  obtain ⟨⟨b1, b2, b3, b4, b5, b6, b7⟩, b8, b9, c1, c2, c3, ⟨c4, c5⟩, c6, c7⟩ := h
  have l5 := b5.2
  have l4 := b4.2
  refine ⟨⟨hD.1, fun i hi => hD.2.1 i hi, ⟨hD.2.2.1.1, ?_, hD.2.2.1.2, ?_⟩, ?_, ?_, hD.2.2.2, ?_⟩, ?_, ?_, hV.1, fun i hi => ⟨(hV.2.2.1 i hi).1, (hV.2.2.1 i hi).2.1, (hV.2.2.1 i hi).2.2, hV.2.1 i hi⟩, ⟨hV.2.2.2.1, ?_, hV.2.2.2.2, ?_⟩, ⟨?_, ?_⟩, ?_, ?_⟩
  · rw [e 51 (by omega)]; exact b3.2.1
  · rw [e 53 (by omega)]; exact b3.2.2.2
  · rw [e 55 (by omega)]; exact b4
  · rw [e 56 (by omega)]; exact b5
  · exact rws_same b7 (by rw [e 55 (by omega)]) (by omega) (by rw [e 54 (by omega)]; exact Nat.le_refl _) (fun k _ _ => e k (by omega))
  · unfold rw_force at b8 ⊢
    rw [e 57 (by omega), e 56 (by omega)]; exact b8
  · rw [e 57 (by omega), f 65 8 (by omega)]; exact b9
  · rw [e 51 (by omega), f _ _ (by omega)]; exact c3.2.1
  · rw [e 53 (by omega), f _ _ (by omega)]; exact c3.2.2.2
  · rw [e 55 (by omega), f _ _ (by omega)]; exact c4
  · rw [e 56 (by omega), f _ _ (by omega)]; exact c5
  · exact seen_same c6 (by rw [e 55 (by omega)]) (by omega) (fun k _ _ => e k (by omega)) (fun j _ => ⟨f _ _ (by omega), f _ _ (by omega), f _ _ (by omega)⟩)
  · exact laws_same c7 (by rw [e 56 (by omega)]) (fun k hk => e k (by omega)) (fun t _ _ => by rw [h2]) (by omega) (fun a j ha => f a j (by omega)) (congrArg (fun z => z.2.2.2) h2)
theorem rf10_fs {k : Int32} {μ m : hm_M} (f : fs μ m) : fs (rf10 k μ) (rf10 k m) := by
  refine ⟨f.1, fun a j h => ?_⟩
  unfold rf10
  by_cases z : a = 180 ∧ j = rj10 k
  · rw [wI_eq z.1 z.2, wI_eq z.1 z.2, f.2 180 _ (by unfold scr; omega)]
  · rw [wI_ne z, wI_ne z]
    by_cases y : a = 179 ∧ j = 0
    · rw [wI_eq y.1 y.2, wI_eq y.1 y.2]
    · rw [wI_ne y, wI_ne y]; exact f.2 a j h
theorem rk_n {k : Int32} (h : rk k) : ¬ (0 : Int32) ≤ k ∧ k < 0 := by
  rcases h with rfl | rfl | rfl | rfl | rfl <;> decide
theorem pu_deed {d : Nat} (hd : d < 4) (x y : Int32) {μ : hm_M} {ν : hm_N} (hL : hm_LL ν μ) (h : PP μ) : ∃ (r : Int32) (μ1 μ2 : hm_M), (hm_b2 (f_X1_doNoted 87 65 (Int32.ofNat d) x y μ) fun x2 μ3 => hm_b2 (f_X9_told x2 μ3) fun x4 μ5 => some (x4, μ5)) = some (r, μ1) ∧ (hm_b2 (F10 d x y μ1) fun x2 μ3 => hm_b2 (f_X10_goodOr x2 μ3) fun x4 μ5 => some (x4, μ5)) = some (r, μ2) ∧ PP μ2 := by
  obtain ⟨a1, a2, a3, a4, a5, a6, a7⟩ := id h
  obtain ⟨law, L, l1, l2, l3⟩ := lawF a1
  obtain ⟨s, E, s9, s10, sE⟩ := PS_to a4
  have hW := ln_109 hL
  have hD := a1.1.d
  have hV : VD μ 65 (μ.1 181) := a1.2.2.2.d
  obtain ⟨ans, ρ1, d9, d10⟩ := deed_all (L := L) hd hD l3 x y
  rcases d10 with ⟨k1, -, -, rfl, k2⟩ | ⟨⟨k, rfl, hk⟩, hD1, he, k2⟩
  · obtain ⟨μ3, μ5, n1, n2, n3, n4, n5, n6⟩ := SR9_no s9 hV l1 l2 hW d9
    -- refused
    have P5 : PP μ5 := by
      have f65 : ∀ a j, ¬ (87 ≤ a ∧ a ≤ 111) → a ≠ 66 → a ≠ 67 → a ≠ 69 → ¬ (a = 70 ∧ j = 0) → μ5.1 a j = μ.1 a j := fun a j h1 h2 h3 h4 h5 => n6 a j (by omega) (by omega) h2 h3 h4 h5
      have e181 : μ5.1 181 = μ.1 181 := funext fun j => f65 181 j (by omega) (by omega) (by omega) (by omega) (by omega)
      have e22 : μ5.2.2 = μ.2.2 := congrArg (fun z => z.2) n5
      refine ⟨?_, a2.same e22 (fun a j z => f65 a j (by unfold dI at z; omega) (by unfold dI at z; omega) (by unfold dI at z; omega) (by unfold dI at z; omega) (by unfold dI at z; omega)), a3.same (fun a j z => f65 a j (by unfold dD at z; omega) (by unfold dD at z; omega) (by unfold dD at z; omega) (by unfold dD at z; omega) (by unfold dD at z; omega)), ?_, a5.same (fun a j z => f65 a j (by unfold dT at z; omega) (by unfold dT at z; omega) (by unfold dT at z; omega) (by unfold dT at z; omega) (by unfold dT at z; omega)), a6.same (fun a j z => f65 a j (by unfold dM at z; omega) (by unfold dM at z; omega) (by unfold dM at z; omega) (by unfold dM at z; omega) (by unfold dM at z; omega)), a7.same (fun j => f65 185 j (by omega) (by omega) (by omega) (by omega) (by omega))⟩
      · rw [e181]
        exact VR_new a1 n4 hD (fun _ _ => rfl) e22 (fun a j z => f65 a j (by omega) (by omega) (by omega) (by omega) (by omega))
      · refine PS_of n3 ⟨s10.1, ?_, fun i hi => ?_⟩ (by rw [e181]; exact sE)
        · rw [f65 _ _ (by omega) (by omega) (by omega) (by omega) (by omega)]; exact s10.2.1
        · obtain ⟨w1, w2⟩ := s10.2.2 i hi
          exact ⟨fun q hq => by rw [f65 _ _ (by omega) (by omega) (by omega) (by omega) (by omega)]; exact w1 q hq, by rw [f65 _ _ (by omega) (by omega) (by omega) (by omega) (by omega)]; exact w2⟩
    have kr : (rf9 ans μ5).1 181 = μ.1 181 := by
      funext j
      rw [rf9_ne (by omega)]
      exact n6 181 j (by omega) (by omega) (by omega) (by omega) (by omega) (by omega)
    obtain ⟨m1, q1, q2⟩ := k2 (rf9 ans μ5) kr
    have rn := rk_n k1
    refine ⟨ans, rf9 ans μ5, rf10 ans m1, ?_, ?_, fs_PP (rf_PP k1 P5) (rf10_fs (fq_fs q2))⟩
    · unfold f_X1_doNoted f_X9_told
      rw [n1, Option.bind_some, n2, b2_some, if_pos rn.2, b2_some, if_neg rn.1, v_rf9 k1, b2_some, b2_some]
    · unfold f_X10_goodOr
      rw [q1, b2_some, if_neg rn.1, v_rf10 k1, b2_some, b2_some]
  · obtain ⟨μ3, μ5, μ7, n1, n2, n3, n4, n5, n6, n7⟩ := SR9_do s9 hV l1 l2 hW hk d9
    have f7 : ∀ a j, ¬ (87 ≤ a ∧ a ≤ 111) → a ≠ 66 → a ≠ 67 → a ≠ 69 → ¬ (a = 70 ∧ j = 0) → ¬ (a = 64 ∧ j = 16) → (hm_wI μ7 64 16 0).1 a j = μ.1 a j := fun a j h1 h2 h3 h4 h5 h6 => by
      rw [wI_ne h6]
      exact n7 a j (by omega) (by omega) h2 h3 h4 h5
    have k8 : (hm_wI μ7 64 16 0).1 181 = μ.1 181 := funext fun j => f7 181 j (by omega) (by omega) (by omega) (by omega) (by omega) (by omega)
    have k33 : (hm_wI μ7 64 16 0).1 179 33 = Int32.ofNat s := by rw [f7 _ _ (by omega) (by omega) (by omega) (by omega) (by omega) (by omega)]; exact s10.2.1
    obtain ⟨mq, mk, m1, q1, q2, q3, q4, q5⟩ := k2 (hm_wI μ7 64 16 0) s k8 k33 s10.1
    obtain ⟨mk', w1, ⟨w2, w3⟩, w4, w5, w6, w7⟩ := v_keeps (m := mq) (u := s) (d := d) (by rw [q1.2 _ _ (by decide) (by omega)]; exact k33) s10.1
    have emk : mk' = mk := Option.some.inj (w1.symm.trans q2)
    subst emk
    have kq : mq.1 181 = μ.1 181 := (fq_181 q1).trans k8
    have nn : ¬ Int32.ofNat k < 0 := n_nn (by omega)
    have nn2 : (0 : Int32) ≤ Int32.ofNat k := by rw [show (0 : Int32) = Int32.ofNat 0 from rfl, n_le (by omega) (by omega)]; omega
    -- what has changed
    have fall : ∀ a j, ¬ (87 ≤ a ∧ a ≤ 111) → a ≠ 66 → a ≠ 67 → a ≠ 69 → ¬ (a = 70 ∧ j = 0) → ¬ (a = 64 ∧ j = 16) → a ≠ 181 → a ≠ 191 → a ≠ 192 → a ≠ 193 → ¬ (a = 179 ∧ (j = 0 ∨ j = 33 ∨ (22 ≤ j ∧ j ≤ 25))) → (hm_wI m1 179 0 0).1 a j = μ.1 a j := by
      intro a j h1 h2 h3 h4 h5 h6 h7 h8 h9 h10 h11
      rw [wI_ne (by omega), q4.2 a j h7 h8 h9 (by omega), w3 a j h10 (by omega), q1.2 a j h8 (by omega)]
      exact f7 a j h1 h2 h3 h4 h5 h6
    have f9 : ∀ a j, a < 179 → (hm_wI m1 179 0 0).1 a j = (hm_wI μ7 64 16 0).1 a j := fun a j ha => by
      rw [wI_ne (by omega), q4.2 a j (by omega) (by omega) (by omega) (by omega), w3 a j (by omega) (by omega), q1.2 a j (by omega) (by omega)]
    have e22 : (hm_wI m1 179 0 0).2.2 = μ.2.2 := by
      show m1.2.2 = μ.2.2
      rw [q4.1, w2, q1.1]
      show μ7.2.2 = μ.2.2
      rw [n6]
    have e181 : (hm_wI m1 179 0 0).1 181 = ρ1 := (funext fun j => wI_ne (by omega)).trans q5
    refine ⟨Int32.ofNat k, hm_wI μ7 64 16 0, hm_wI m1 179 0 0, ?_, ?_, ?_, a2.same e22 (fun a j z => fall a j (by unfold dI at z; omega) (by unfold dI at z; omega) (by unfold dI at z; omega) (by unfold dI at z; omega) (by unfold dI at z; omega) (by unfold dI at z; omega) (by unfold dI at z; omega) (by unfold dI at z; omega) (by unfold dI at z; omega) (by unfold dI at z; omega) (by unfold dI at z; omega)), a3.same (fun a j z => fall a j (by unfold dD at z; omega) (by unfold dD at z; omega) (by unfold dD at z; omega) (by unfold dD at z; omega) (by unfold dD at z; omega) (by unfold dD at z; omega) (by unfold dD at z; omega) (by unfold dD at z; omega) (by unfold dD at z; omega) (by unfold dD at z; omega) (by unfold dD at z; omega)), ?_, a5.same (fun a j z => fall a j (by unfold dT at z; omega) (by unfold dT at z; omega) (by unfold dT at z; omega) (by unfold dT at z; omega) (by unfold dT at z; omega) (by unfold dT at z; omega) (by unfold dT at z; omega) (by unfold dT at z; omega) (by unfold dT at z; omega) (by unfold dT at z; omega) (by unfold dT at z; omega)), ?_, a7.same (fun j => fall 185 j (by omega) (by omega) (by omega) (by omega) (by omega) (by omega) (by omega) (by omega) (by omega) (by omega) (by omega))⟩
    · unfold f_X1_doNoted f_X9_told
      rw [n1, Option.bind_some, n2, b2_some, if_neg nn, n3, Option.bind_some, b2_some, if_pos nn2, v_gr9, b2_some, b2_some]
    · unfold f_X10_goodOr
      rw [q3, b2_some, if_pos nn2, v_gd10, b2_some, b2_some]
    · rw [e181]
      refine VR_new a1 ?_ hD1 he e22 (fun a j z => ?_)
      · have e9 : ∀ a j, a < 87 → a ≠ 64 → (hm_wI m1 179 0 0).1 a j = μ7.1 a j := fun a j h1 h2 => by rw [f9 a j (by omega), wI_ne (by omega)]
        exact ⟨by rw [e9 _ _ (by omega) (by omega)]; exact n5.1, fun i hi => by rw [e9 _ _ (by omega) (by omega)]; exact n5.2.1 i hi, fun i hi => by rw [e9 _ _ (by omega) (by omega), e9 _ _ (by omega) (by omega), e9 _ _ (by omega) (by omega)]; exact n5.2.2.1 i hi, by rw [e9 _ _ (by omega) (by omega)]; exact n5.2.2.2.1, by rw [e9 _ _ (by omega) (by omega)]; exact n5.2.2.2.2⟩
      · exact fall a j (by omega) (by omega) (by omega) (by omega) (by omega) (by omega) (by omega) (by omega) (by omega) (by omega) (by omega)
    · refine PS_of (s := min s 15 + 1) (E := pE s E (d, μ.1 181)) ?_ ?_ ?_
      · obtain ⟨f, g1, g2, g3, g4, g5⟩ := n4
        have e9 : ∀ a j, 87 ≤ a → a < 179 → (hm_wI m1 179 0 0).1 a j = μ7.1 a j := fun a j h1 h2 => by rw [f9 a j (by omega), wI_ne (by omega)]
        have hr : ∀ i, (f + i) % 17 < 17 := fun i => Nat.mod_lt _ (by decide)
        refine ⟨f, g1, g2, by rw [e9 _ _ (by omega) (by omega)]; exact g3, by rw [e9 _ _ (by omega) (by omega)]; exact g4, fun i hi => ?_⟩
        have := hr i
        rw [show (hm_wI m1 179 0 0).1 (87 + 2 + (f + i) % 17) = μ7.1 (87 + 2 + (f + i) % 17) from funext fun j => e9 _ _ (by omega) (by omega)]
        exact g5 i hi
      · have sq : SR10 mq s E := ⟨s10.1, by rw [q1.2 _ _ (by decide) (by omega)]; exact k33, fun i hi => by
          obtain ⟨w8, w9⟩ := s10.2.2 i hi
          exact ⟨fun q hq => by rw [q1.2 _ _ (by decide) (by omega), f7 _ _ (by omega) (by omega) (by omega) (by omega) (by omega) (by omega)]; exact w8 q hq, by rw [q1.2 _ _ (by decide) (by omega), f7 _ _ (by omega) (by omega) (by omega) (by omega) (by omega) (by omega)]; exact w9⟩⟩
        have sk : SR10 mk' (min s 15 + 1) (pE s E (d, μ.1 181)) := SR10_push sq kq w4 w5 w6 w7
        have e3 : ∀ j, (hm_wI m1 179 0 0).1 193 j = mk'.1 193 j := fun j => by rw [wI_ne (by omega), q4.2 _ _ (by decide) (by decide) (by decide) (by omega)]
        exact ⟨sk.1, by rw [wI_ne (by omega), q4.2 _ _ (by decide) (by decide) (by decide) (by omega)]; exact sk.2.1, fun i hi => ⟨fun q hq => by rw [e3]; exact (sk.2.2 i hi).1 q hq, by rw [e3]; exact (sk.2.2 i hi).2⟩⟩
      · rw [e181, he 54 (by omega)]
        exact EOK_push sE hd hD.n s10.1
    · refine pm_set a6 ?_ (fun a j z => ?_)
      · rw [wI_at, f9 64 16 (by omega), wI_at]
      · obtain ⟨z1, z2, z3⟩ := z
        exact fall a j (by unfold dM at z1; omega) (by unfold dM at z1; omega) (by unfold dM at z1; omega) (by unfold dM at z1; omega) (by unfold dM at z1; omega) z2 (by unfold dM at z1; omega) (by unfold dM at z1; omega) (by unfold dM at z1; omega) (by unfold dM at z1; omega) (by unfold dM at z1; omega)
theorem pu_take (v1 v2 : Int32) {μ : hm_M} {ν : hm_N} (hL : hm_LL ν μ) (h : PP μ) : ∃ (r : Int32) (μ1 μ2 : hm_M), f_X9_take v1 v2 μ = some (r, μ1) ∧ f_X10_take v1 v2 μ1 = some (r, μ2) ∧ PP μ2 := pu_deed (d := 0) (by decide) v1 v2 hL h
theorem pu_loose (v1 v2 : Int32) {μ : hm_M} {ν : hm_N} (hL : hm_LL ν μ) (h : PP μ) : ∃ (r : Int32) (μ1 μ2 : hm_M), f_X9_loose v1 v2 μ = some (r, μ1) ∧ f_X10_loose v1 v2 μ1 = some (r, μ2) ∧ PP μ2 := pu_deed (d := 1) (by decide) v1 v2 hL h
theorem pu_walk (v1 v2 : Int32) {μ : hm_M} {ν : hm_N} (hL : hm_LL ν μ) (h : PP μ) : ∃ (r : Int32) (μ1 μ2 : hm_M), f_X9_walk v1 v2 μ = some (r, μ1) ∧ f_X10_walk v1 v2 μ1 = some (r, μ2) ∧ PP μ2 := pu_deed (d := 2) (by decide) v1 v2 hL h
theorem pu_pass {μ : hm_M} {ν : hm_N} (hL : hm_LL ν μ) (h : PP μ) : ∃ (r : Int32) (μ1 μ2 : hm_M), f_X9_pass μ = some (r, μ1) ∧ f_X10_pass μ1 = some (r, μ2) ∧ PP μ2 := pu_deed (d := 3) (by decide) 0 0 hL h
end
