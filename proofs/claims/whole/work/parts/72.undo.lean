section
/-! undo, row. -/
def rmx (e ρ : Nat → Int32) (k : Nat) : Int32 := if k < 25 then e k else ρ k
theorem rmx_lt {e ρ : Nat → Int32} {k : Nat} (h : k < 25) : rmx e ρ k = e k := if_pos h
theorem rmx_ge {e ρ : Nat → Int32} {k : Nat} (h : 25 ≤ k) : rmx e ρ k = ρ k := if_neg (by omega)
theorem pu_undo {μ : hm_M} (h : PP μ) : ∃ (r : Int32) (μ1 μ2 : hm_M), f_X9_undo μ = some (r, μ1) ∧ f_X10_undo μ1 = some (r, μ2) ∧ PP μ2 := by
  obtain ⟨a1, a2, a3, a4, a5, a6, a7⟩ := id h
  obtain ⟨s, E, ⟨f, f1, f2, f3, f4, f5⟩, s10, sE⟩ := PS_to a4
  have rk3 : rk (-3) := Or.inr (Or.inr (Or.inl rfl))
  by_cases z : s = 0
  · subst z
    refine ⟨-3, rf9 (-3) μ, rf10 (-3) (rf9 (-3) μ), ?_, ?_, rf_PP rk3 h⟩
    · unfold f_X9_undo f_X7_goBack f_X9_told
      rw [f4, if_pos (show Int32.ofNat 0 = 0 from rfl), b2_some, if_neg (by decide), v_rf9 rk3]
      rfl
    · unfold f_X10_undo
      rw [rf9_ne (by omega), s10.2.1, if_pos (show Int32.ofNat 0 = 0 from rfl), v_rf10 rk3]
      rfl
  · obtain ⟨t, rfl⟩ : ∃ t, s = t + 1 := ⟨s - 1, by omega⟩
    obtain ⟨r1, r2, r3⟩ := f5 t (by omega)
    obtain ⟨q1, q2⟩ := s10.2.2 t (by omega)
    obtain ⟨e1, e2⟩ := sE t (by omega)
    have hr : (f + t) % 17 < 17 := Nat.mod_lt _ (by decide)
    generalize hR : 87 + 2 + (f + t) % 17 = R at r1 r2 r3
    have st1 : Int32.ofNat (t + 1) - 1 = Int32.ofNat t := by rw [show (1 : Int32) = Int32.ofNat 1 from rfl, n_sub (by omega)]; rfl
    have nz : ¬ Int32.ofNat (t + 1) = 0 := by rw [show (0 : Int32) = Int32.ofNat 0 from rfl, n_eq (by omega) (by omega)]; omega
    -- the component
    have c9 : f_X7_goBack 87 65 μ = some (Int32.ofNat (E t).1, cpm (cpm (cpm (hm_wI (hm_wI μ 87 2 (Int32.ofNat t)) 70 0 ((E t).2 24)) R 2 66 0 8) R 10 67 0 8) R 18 69 0 8) := by
      unfold f_X7_goBack
      rw [f4, if_neg nz, st1, pI_some, Option.bind_some, wI_ne (by omega), f3, wI_at, n_add, show (17 : Int32) = Int32.ofNat 17 from rfl, n_rem (by omega) (by decide), n_cl (by omega), ldR_n hr (by decide), Option.bind_some, hR, show (1 : Int32) = Int32.ofNat 1 from rfl, ld_n (by decide) (by decide), Option.bind_some, wI_ne (by omega), r2, show (0 : Int32) = Int32.ofNat 0 from rfl, sd_n (by decide) (by decide), Option.bind_some, show (2 : Int32) = Int32.ofNat 2 from rfl, show (8 : Int32) = Int32.ofNat 8 from rfl, cp_n (by decide) (by decide) (by decide) (by decide), Option.bind_some, show (10 : Int32) = Int32.ofNat 10 from rfl, cp_n (by decide) (by decide) (by decide) (by decide), Option.bind_some, show (18 : Int32) = Int32.ofNat 18 from rfl, cp_n (by decide) (by decide) (by decide) (by decide), Option.bind_some, ld_n (by decide) (by decide), Option.bind_some, cpm_ne (by omega), cpm_ne (by omega), cpm_ne (by omega), wI_ne (by omega), wI_ne (by omega), r1]
    generalize hm8 : cpm (cpm (cpm (hm_wI (hm_wI μ 87 2 (Int32.ofNat t)) 70 0 ((E t).2 24)) R 2 66 0 8) R 10 67 0 8) R 18 69 0 8 = μ8 at c9
    have g2 : μ8.2 = μ.2 := by rw [← hm8]; rfl
    have gf : ∀ a j, ¬ (a = 87 ∧ j = 2) → ¬ (a = 70 ∧ j = 0) → a ≠ 66 → a ≠ 67 → a ≠ 69 → μ8.1 a j = μ.1 a j := fun a j h1 h2 h3 h4 h5 => by
      rw [← hm8, cpm_ne (by omega), cpm_ne (by omega), cpm_ne (by omega), wI_ne (by omega), wI_ne (by omega)]
    have V8 : VD μ8 65 (rmx (E t).2 (μ.1 181)) := by
      have hV : VD μ 65 (μ.1 181) := a1.2.2.2.d
      refine ⟨?_, fun i hi => ?_, fun i hi => ⟨?_, ?_, ?_⟩, ?_, ?_⟩
      · rw [gf _ _ (by omega) (by omega) (by omega) (by omega) (by omega), rmx_ge (by omega)]; exact hV.1
      · rw [← hm8, cpm_eq rfl (by omega) (by omega), cpm_ne (by omega), cpm_ne (by omega), wI_ne (by omega), wI_ne (by omega), rmx_lt (by omega), show 18 + (i - 0) = 18 + i by omega]; exact (r3 i hi).2.2
      · rw [← hm8, cpm_ne (by omega), cpm_ne (by omega), cpm_eq rfl (by omega) (by omega), wI_ne (by omega), wI_ne (by omega), rmx_lt (by omega), show 2 + (i - 0) = 2 + i by omega]; exact (r3 i hi).1
      · rw [← hm8, cpm_ne (by omega), cpm_eq rfl (by omega) (by omega), cpm_ne (by omega), wI_ne (by omega), wI_ne (by omega), rmx_lt (by omega), show 10 + (i - 0) = 10 + i by omega]; exact (r3 i hi).2.1
      · rw [gf _ _ (by omega) (by omega) (by omega) (by omega) (by omega), rmx_ge (by omega)]; exact (hV.2.2.1 i hi).2.2
      · rw [← hm8, cpm_ne (by omega), cpm_ne (by omega), cpm_ne (by omega), wI_at, rmx_lt (by omega)]
      · rw [gf _ _ (by omega) (by omega) (by omega) (by omega) (by omega), rmx_ge (by omega)]; exact hV.2.2.2.2
    have hD : DW (rmx (E t).2 (μ.1 181)) := by
      have hD0 := a1.1.d
      refine ⟨?_, fun i hi => ?_, ⟨?_, ?_⟩, fun p q hp hq => ?_, fun p q hp => ?_⟩
      · rw [rmx_ge (by omega)]; exact hD0.1
      · rw [rmx_lt (by omega), rmx_lt (by omega), rmx_ge (by omega), rmx_lt (by omega)]
        obtain ⟨u1, u2, u3⟩ := e2.1 i hi
        exact ⟨u1, u2, (hD0.2.1 i hi).2.2.1, u3⟩
      · rw [rmx_lt (by omega)]; exact e2.2.1
      · rw [rmx_ge (by omega)]; exact hD0.2.2.1.2
      · rw [rmx_lt (by omega), rmx_lt (by omega)]; exact e2.2.2.1 p q hp hq
      · rw [rmx_lt (by omega), rmx_ge (by omega)]; exact e2.2.2.2 p q hp
    -- the reference
    have m33 : (hm_wI μ8 64 16 0).1 179 33 = Int32.ofNat (t + 1) := by rw [wI_ne (by omega), gf _ _ (by omega) (by omega) (by omega) (by omega) (by omega)]; exact s10.2.1
    have c10 : f_X10_undo (hm_wI μ8 64 16 0) = some (Int32.ofNat (E t).1, hm_wI (cpm (hm_wI (hm_wI μ8 64 16 0) 179 33 (Int32.ofNat t)) 193 (26 * t) 181 0 25) 179 0 0) := by
      have lp : ∀ (e : hm_M → Option (Int32 × hm_M)) (m : hm_M), f_X10_undo_L34 (Int32.ofNat (26 * t)) e hm_fu (Int32.ofNat 0) m = e (cpm m 193 (26 * t) 181 0 25) := fun e m => cpy_loop (Or.inl (by decide)) (fun F k m2 hk => by
        rw [f_X10_undo_L34, if_neg (by rw [show (25 : Int32) = Int32.ofNat 25 from rfl, n_le (by omega) (by omega)]; omega), n_add, ld_n (by omega) (by decide), Option.bind_some, sd_n (by omega) (by decide), Option.bind_some, show Int32.ofNat k + 1 = Int32.ofNat (k + 1) from n_add k 1, Nat.zero_add]) (fun F m2 => by
        rw [f_X10_undo_L34, if_pos (by decide)]) (fu_lt (by decide)) m
      unfold f_X10_undo
      rw [m33, if_neg nz, st1, pI_some, Option.bind_some, wI_at, show (26 : Int32) * Int32.ofNat t = Int32.ofNat (26 * t) from n_mul 26 t, Option.bind_some, show (0 : Int32) = Int32.ofNat 0 from rfl, lp, show Int32.ofNat (26 * t) + 25 = Int32.ofNat (26 * t + 25) from n_add _ 25, ld_n (by omega) (by decide), Option.bind_some, cpm_ne (by omega), wI_ne (by omega), wI_ne (by omega), gf _ _ (by omega) (by omega) (by omega) (by omega) (by omega), q2, v_gd10]
      rfl
    generalize hm2 : hm_wI (cpm (hm_wI (hm_wI μ8 64 16 0) 179 33 (Int32.ofNat t)) 193 (26 * t) 181 0 25) 179 0 0 = m2 at c10
    have fall : ∀ a j, ¬ (a = 87 ∧ j = 2) → ¬ (a = 70 ∧ j = 0) → a ≠ 66 → a ≠ 67 → a ≠ 69 → ¬ (a = 64 ∧ j = 16) → a ≠ 181 → ¬ (a = 179 ∧ (j = 0 ∨ j = 33)) → m2.1 a j = μ.1 a j := fun a j h1 h2 h3 h4 h5 h6 h7 h8 => by
      rw [← hm2, wI_ne (by omega), cpm_ne (by omega), wI_ne (by omega), wI_ne (by omega)]
      exact gf a j h1 h2 h3 h4 h5
    have f9 : ∀ a j, a < 179 → ¬ (a = 64 ∧ j = 16) → m2.1 a j = μ8.1 a j := fun a j h1 h2 => by
      rw [← hm2, wI_ne (by omega), cpm_ne (by omega), wI_ne (by omega), wI_ne (by omega)]
    have e22 : m2.2.2 = μ.2.2 := by
      rw [← hm2]
      exact congrArg (fun z => z.2) g2
    have e181 : m2.1 181 = rmx (E t).2 (μ.1 181) := funext fun k => by
      by_cases q : k < 25
      · rw [← hm2, wI_ne (by omega), cpm_eq rfl (by omega) (by omega), wI_ne (by omega), wI_ne (by omega), gf _ _ (by omega) (by omega) (by omega) (by omega) (by omega), rmx_lt q, show 26 * t + (k - 0) = 26 * t + k by omega, q1 k q]
      · rw [← hm2, wI_ne (by omega), cpm_ne (by omega), wI_ne (by omega), wI_ne (by omega), gf _ _ (by omega) (by omega) (by omega) (by omega) (by omega), rmx_ge (by omega)]
    have nn2 : (0 : Int32) ≤ Int32.ofNat (E t).1 := by rw [show (0 : Int32) = Int32.ofNat 0 from rfl, n_le (by omega) (by omega)]; omega
    refine ⟨Int32.ofNat (E t).1, hm_wI μ8 64 16 0, m2, ?_, c10, ?_, a2.same e22 (fun a j z => fall a j (by unfold dI at z; omega) (by unfold dI at z; omega) (by unfold dI at z; omega) (by unfold dI at z; omega) (by unfold dI at z; omega) (by unfold dI at z; omega) (by unfold dI at z; omega) (by unfold dI at z; omega)), a3.same (fun a j z => fall a j (by unfold dD at z; omega) (by unfold dD at z; omega) (by unfold dD at z; omega) (by unfold dD at z; omega) (by unfold dD at z; omega) (by unfold dD at z; omega) (by unfold dD at z; omega) (by unfold dD at z; omega)), ?_, a5.same (fun a j z => fall a j (by unfold dT at z; omega) (by unfold dT at z; omega) (by unfold dT at z; omega) (by unfold dT at z; omega) (by unfold dT at z; omega) (by unfold dT at z; omega) (by unfold dT at z; omega) (by unfold dT at z; omega)), ?_, a7.same (fun j => fall 185 j (by omega) (by omega) (by omega) (by omega) (by omega) (by omega) (by omega) (by omega))⟩
    · unfold f_X9_undo f_X9_told
      rw [c9, b2_some, if_pos nn2, v_gr9]
      rfl
    · rw [e181]
      refine VR_new a1 ?_ hD (fun k hk => rmx_ge hk) e22 (fun a j z => fall a j (by omega) (by omega) (by omega) (by omega) (by omega) (by omega) (by omega) (by omega))
      exact ⟨by rw [f9 _ _ (by omega) (by omega)]; exact V8.1, fun i hi => by rw [f9 _ _ (by omega) (by omega)]; exact V8.2.1 i hi, fun i hi => by rw [f9 _ _ (by omega) (by omega), f9 _ _ (by omega) (by omega), f9 _ _ (by omega) (by omega)]; exact V8.2.2.1 i hi, by rw [f9 _ _ (by omega) (by omega)]; exact V8.2.2.2.1, by rw [f9 _ _ (by omega) (by omega)]; exact V8.2.2.2.2⟩
    · refine PS_of (s := t) (E := E) ⟨f, f1, by omega, ?_, ?_, fun i hi => ?_⟩ ⟨by omega, ?_, fun i hi => ?_⟩ ?_
      · rw [fall _ _ (by omega) (by omega) (by omega) (by omega) (by omega) (by omega) (by omega) (by omega)]; exact f3
      · rw [f9 _ _ (by omega) (by omega), ← hm8, cpm_ne (by omega), cpm_ne (by omega), cpm_ne (by omega), wI_ne (by omega), wI_at]
      · have hri : (f + i) % 17 < 17 := Nat.mod_lt _ (by decide)
        rw [show m2.1 (87 + 2 + (f + i) % 17) = μ.1 (87 + 2 + (f + i) % 17) from funext fun j => fall _ _ (by omega) (by omega) (by omega) (by omega) (by omega) (by omega) (by omega) (by omega)]
        exact f5 i (by omega)
      · rw [← hm2, wI_ne (by omega), cpm_ne (by omega), wI_at]
      · obtain ⟨w1, w2⟩ := s10.2.2 i (by omega)
        exact ⟨fun k hk => by rw [fall _ _ (by omega) (by omega) (by omega) (by omega) (by omega) (by omega) (by omega) (by omega)]; exact w1 k hk, by rw [fall _ _ (by omega) (by omega) (by omega) (by omega) (by omega) (by omega) (by omega) (by omega)]; exact w2⟩
      · rw [e181, rmx_ge (by omega)]
        exact fun i hi => sE i (by omega)
    · refine pm_set a6 ?_ (fun a j z => ?_)
      · rw [← hm2, wI_at, wI_ne (by omega), cpm_ne (by omega), wI_ne (by omega), wI_at]
      · obtain ⟨z1, z2, z3⟩ := z
        exact fall a j (by unfold dM at z1; omega) (by unfold dM at z1; omega) (by unfold dM at z1; omega) (by unfold dM at z1; omega) (by unfold dM at z1; omega) z2 (by unfold dM at z1; omega) (by unfold dM at z1; omega)
end
