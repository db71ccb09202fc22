section
/-! Two halves of one memory. -/
def mix (A B : hm_M) : hm_M := ((fun a j => if 179 ≤ a ∧ a ≤ 204 then B.1 a j else A.1 a j), A.2)
theorem mix_b {A B : hm_M} {a j : Nat} (h1 : 179 ≤ a) (h2 : a ≤ 204) : (mix A B).1 a j = B.1 a j := if_pos ⟨h1, h2⟩
theorem mix_a {A B : hm_M} {a j : Nat} (h : ¬ (179 ≤ a ∧ a ≤ 204)) : (mix A B).1 a j = A.1 a j := if_neg h
theorem mix_row {A B : hm_M} {a : Nat} (h1 : 179 ≤ a) (h2 : a ≤ 204) : (mix A B).1 a = B.1 a := funext fun _ => mix_b h1 h2
theorem PP.ext {μ μ' : hm_M} (h : PP μ) (h2 : μ'.2.2 = μ.2.2) (h1 : ∀ a j, μ'.1 a j = μ.1 a j) : PP μ' := h.same ⟨h2, fun a j _ => h1 a j⟩
theorem rf10_mix {k : Int32} {A B : hm_M} (h : PP (rf10 k (mix A B))) : PP (mix A (rf10 k B)) := by
  refine h.ext rfl fun a j => ?_
  by_cases z : 179 ≤ a ∧ a ≤ 204
  · rw [mix_b z.1 z.2]
    unfold rf10
    by_cases y : a = 180 ∧ j = rj10 k
    · rw [wI_eq y.1 y.2, wI_eq y.1 y.2, mix_b (by omega) (by omega)]
    · rw [wI_ne y, wI_ne y]
      by_cases y2 : a = 179 ∧ j = 0
      · rw [wI_eq y2.1 y2.2, wI_eq y2.1 y2.2]
      · rw [wI_ne y2, wI_ne y2, mix_b z.1 z.2]
  · rw [mix_a z]
    unfold rf10
    rw [wI_ne (by omega), wI_ne (by omega), mix_a z]
theorem rfm_PP {k : Int32} {M : hm_M} (h1 : VR M 65 (M.1 181)) (h2 : PI M) (h3 : PD M) (h4 : PS M) (h5 : PT M) (h7 : PC M) (h6 : PM (rf10 k M)) : PP (rf10 k M) := by
  have w : ∀ a j, a ≠ 180 → ¬ (a = 179 ∧ j = 0) → (rf10 k M).1 a j = M.1 a j := fun a j z z1 => by
    unfold rf10
    rw [wI_ne (by omega), wI_ne (by omega)]
  exact ⟨PV.same h1 rfl (fun a j z => w a j (by unfold dV at z; omega) (by unfold dV at z; omega)), h2.same rfl (fun a j z => w a j (by unfold dI at z; omega) (by unfold dI at z; omega)), h3.same (fun a j z => w a j (by unfold dD at z; omega) (by unfold dD at z; omega)), h4.same (fun a j z => w a j (by unfold dS at z; omega) (by unfold dS at z; omega)), h5.same (fun a j z => w a j (by unfold dT at z; omega) (by unfold dT at z; omega)), h6, h7.same (fun j => w _ _ (by omega) (by omega))⟩
theorem stop_PP {μ : hm_M} (x : Int32) (h : PP μ) : PP (hm_wI (hm_wI μ 64 14 x) 179 46 x) := by
  obtain ⟨a1, a2, a3, a4, a5, a6, a7⟩ := h
  have w : ∀ a j, ¬ (a = 64 ∧ j = 14) → ¬ (a = 179 ∧ j = 46) → (hm_wI (hm_wI μ 64 14 x) 179 46 x).1 a j = μ.1 a j := fun a j z z1 => by rw [wI_ne z1, wI_ne z]
  refine ⟨PV.same a1 rfl (fun a j z => w a j (by unfold dV at z; omega) (by unfold dV at z; omega)), a2.same rfl (fun a j z => w a j (by unfold dI at z; omega) (by unfold dI at z; omega)), a3.same (fun a j z => w a j (by unfold dD at z; omega) (by unfold dD at z; omega)), a4.same (fun a j z => w a j (by unfold dS at z; omega) (by unfold dS at z; omega)), a5.same (fun a j z => w a j (by unfold dT at z; omega) (by unfold dT at z; omega)), ?_, a7.same (fun j => w _ _ (by omega) (by omega))⟩
  unfold PM at a6 ⊢
  rw [w 64 13 (by omega) (by omega), w 64 15 (by omega) (by omega), w 64 16 (by omega) (by omega), w 179 14 (by omega) (by omega), w 179 6 (by omega) (by omega), w 179 0 (by omega) (by omega), w 157 0 (by omega) (by omega), w 157 1 (by omega) (by omega), w 157 2 (by omega) (by omega), w 157 3 (by omega) (by omega), w 157 4 (by omega) (by omega), w 180 1 (by omega) (by omega), w 180 2 (by omega) (by omega), w 180 3 (by omega) (by omega), w 180 5 (by omega) (by omega), w 180 6 (by omega) (by omega), wI_ne (by omega), wI_at, wI_at]
  exact ⟨⟨a6.1.1, rfl, a6.1.2.2.1, a6.1.2.2.2⟩, a6.2⟩
theorem v_copy7 {o v : Nat} (hov : o + 18 < v ∨ v + 18 < o) (μ : hm_M) : ∃ m, f_X7_copyFrom o v μ = some m ∧ m.2 = μ.2 ∧ (∀ a j, ¬ (o ≤ a ∧ a ≤ o + 18) → m.1 a j = μ.1 a j) ∧ (m.1 o 1 = μ.1 v 1 ∧ m.1 o 2 = μ.1 v 2) ∧ ∀ k j, k < 17 → j < 26 → m.1 (o + 2 + k) j = μ.1 (v + 2 + k) j := by
  unfold f_X7_copyFrom
  refine lo2 (L := f_X7_copyFrom_L2 o v _) (fun k y m => y = Int32.ofNat k ∧ m.2 = μ.2 ∧ (∀ a j, ¬ (o ≤ a ∧ a ≤ o + 18) → m.1 a j = μ.1 a j) ∧ ∀ i j, i < k → j < 26 → m.1 (o + 2 + i) j = μ.1 (v + 2 + i) j) (fun q => ∃ m, q = some m ∧ m.2 = μ.2 ∧ (∀ a j, ¬ (o ≤ a ∧ a ≤ o + 18) → m.1 a j = μ.1 a j) ∧ (m.1 o 1 = μ.1 v 1 ∧ m.1 o 2 = μ.1 v 2) ∧ ∀ k j, k < 17 → j < 26 → m.1 (o + 2 + k) j = μ.1 (v + 2 + k) j) 17 (fun k y m hk hI => Or.inl ?_) (fun y m hI F => ?_) (fu_lt (by omega)) ⟨rfl, rfl, fun _ _ _ => rfl, fun i j hi => absurd hi (Nat.not_lt_zero i)⟩
  · obtain ⟨rfl, f1, f2, f3⟩ := hI
    refine ⟨_, cpm m (v + 2 + k) 0 (o + 2 + k) 0 26, ⟨rfl, f1, fun a j z => by rw [cpm_ne (by omega)]; exact f2 a j z, fun i j hi hj => ?_⟩, fun F => ?_⟩
    · by_cases z : i = k
      · rw [z, cpm_eq rfl (by omega) (by omega), f2 _ _ (by omega), show 0 + (j - 0) = j by omega]
      · rw [cpm_ne (by omega)]; exact f3 i j (by omega) hj
    · rw [f_X7_copyFrom_L2, if_neg (by rw [show (17 : Int32) = Int32.ofNat 17 from rfl, n_le (by omega) (by omega)]; omega), ldR_n (by omega) (by decide), Option.bind_some, ldR_n (by omega) (by decide), Option.bind_some, n_cl (by omega), show (0 : Int32) = Int32.ofNat 0 from rfl, show (26 : Int32) = Int32.ofNat 26 from rfl, cp_n (by omega) (by omega) (by omega) (by omega), Option.bind_some, show Int32.ofNat k + 1 = Int32.ofNat (k + 1) from n_add k 1]
  · obtain ⟨rfl, f1, f2, f3⟩ := hI
    refine ⟨hm_wI (hm_wI m o 1 (μ.1 v 1)) o 2 (μ.1 v 2), ?_, f1, fun a j z => by rw [wI_ne (by omega), wI_ne (by omega)]; exact f2 a j z, ⟨by rw [wI_ne (by omega), wI_at], by rw [wI_at]⟩, fun k j hk hj => by rw [wI_ne (by omega), wI_ne (by omega)]; exact f3 k j hk hj⟩
    rw [f_X7_copyFrom_L2, if_pos (by decide), pI_some, Option.bind_some, f2 v 1 (by omega), wI_ne (by omega), f2 v 2 (by omega), pI_some, Option.bind_some]
/-- a text laid behind the laws -/
theorem VR_lay {μ : hm_M} {v : Nat} {ρ ρ' : Nat → Int32} (h : VR μ v ρ) (hρ : ∀ k, k < 64 ∨ (65 ≤ k ∧ k < 2465) ∨ (2865 ≤ k ∧ k < 5265) → ρ' k = ρ k) : VR μ v ρ' := by
  obtain ⟨⟨b1, b2, b3, b4, b5, b6, b7⟩, b8, b9, c1, c2, c3, ⟨c4, c5⟩, c6, c7⟩ := h
  have l4 := b4.2
  have l5 := b5.2
  refine ⟨⟨?_, fun i hi => ?_, ?_, ?_, ?_, ⟨fun p q hp hq => ?_, fun p q hp => ?_⟩, ?_⟩, ?_, ?_, ?_, fun i hi => ?_, ?_, ⟨?_, ?_⟩, ?_, ?_⟩
  · rw [hρ 54 (by omega)]; exact b1
  · rw [hρ i (by omega), hρ (8 + i) (by omega), hρ (25 + i) (by omega), hρ (16 + i) (by omega)]; exact b2 i hi
  · rw [hρ 24 (by omega), hρ 51 (by omega), hρ 52 (by omega), hρ 53 (by omega)]; exact b3
  · rw [hρ 55 (by omega)]; exact b4
  · rw [hρ 56 (by omega)]; exact b5
  · rw [hρ (16 + p) (by omega), hρ (16 + q) (by omega)]; exact b6.1 p q hp hq
  · rw [hρ (16 + p) (by omega), hρ 54 (by omega)]; exact b6.2 p q hp
  · exact rws_same b7 (by rw [hρ 55 (by omega)]) (by omega) (by rw [hρ 54 (by omega)]; exact Nat.le_refl _) (fun k _ _ => hρ k (by omega))
  · unfold rw_force at b8 ⊢
    rw [hρ 57 (by omega), hρ 56 (by omega)]; exact b8
  · rw [hρ 57 (by omega)]; exact b9
  · rw [hρ 54 (by omega)]; exact c1
  · rw [hρ i (by omega), hρ (8 + i) (by omega), hρ (25 + i) (by omega), hρ (16 + i) (by omega)]; exact c2 i hi
  · rw [hρ 24 (by omega), hρ 51 (by omega), hρ 52 (by omega), hρ 53 (by omega)]; exact c3
  · rw [hρ 55 (by omega)]; exact c4
  · rw [hρ 56 (by omega)]; exact c5
  · exact seen_same c6 (by rw [hρ 55 (by omega)]) (by omega) (fun k _ _ => hρ k (by omega)) (fun i _ => ⟨rfl, rfl, rfl⟩)
  · intro t ht
    rw [hρ 56 (by omega)] at ht
    obtain ⟨p, p1, p2, pl, p3⟩ := c7 t ht
    refine ⟨p, p1, p2, pl, ?_⟩
    rw [hρ (58 + t) (by omega)]
    exact lawr_cong p3 (fun k hk => hρ _ (by omega)) (fun k hk => hρ _ (by omega))
end
