section
/-! How it was ahead: notes. -/
theorem v_note {μ : hm_M} {o v f s : Nat} (h1 : μ.1 o 1 = Int32.ofNat f) (h2 : μ.1 o 2 = Int32.ofNat s) (hf : f < 17) (hs : s < 17) (hov : o + 19 < v ∨ v + 9 < o) : ∃ μ1, f_X7_note o v μ = some μ1 ∧ (μ1.2 = μ.2 ∧ ∀ a j, a ≠ o + 2 + (f + s) % 17 → μ1.1 a j = μ.1 a j) ∧ μ1.1 (o + 2 + (f + s) % 17) 1 = μ.1 (v + 5) 0 ∧ ∀ i, i < 8 → μ1.1 (o + 2 + (f + s) % 17) (2 + i) = μ.1 (v + 1) i ∧ μ1.1 (o + 2 + (f + s) % 17) (10 + i) = μ.1 (v + 2) i ∧ μ1.1 (o + 2 + (f + s) % 17) (18 + i) = μ.1 (v + 4) i := by
  have hr : (f + s) % 17 < 17 := Nat.mod_lt _ (by decide)
  have e : f_X7_note o v μ = some (cpm (cpm (cpm (hm_wI μ (o + 2 + (f + s) % 17) 1 (μ.1 (v + 5) 0)) (v + 1) 0 (o + 2 + (f + s) % 17) 2 8) (v + 2) 0 (o + 2 + (f + s) % 17) 10 8) (v + 4) 0 (o + 2 + (f + s) % 17) 18 8) := by
    unfold f_X7_note
    rw [h1, h2, n_add, show (17 : Int32) = Int32.ofNat 17 from rfl, n_rem (by omega) (by decide), n_cl (by omega), ldR_n hr (by decide), Option.bind_some, show (0 : Int32) = Int32.ofNat 0 from rfl, ld_n (by decide) (by decide), Option.bind_some, show (1 : Int32) = Int32.ofNat 1 from rfl, sd_n (by decide) (by decide), Option.bind_some, show (2 : Int32) = Int32.ofNat 2 from rfl, show (8 : Int32) = Int32.ofNat 8 from rfl, cp_n (by decide) (by decide) (by decide) (by decide), Option.bind_some, show (10 : Int32) = Int32.ofNat 10 from rfl, cp_n (by decide) (by decide) (by decide) (by decide), Option.bind_some, show (18 : Int32) = Int32.ofNat 18 from rfl, cp_n (by decide) (by decide) (by decide) (by decide), Option.bind_some]
  refine ⟨_, e, ⟨rfl, fun a j ha => ?_⟩, ?_, fun i hi => ⟨?_, ?_, ?_⟩⟩
  · rw [cpm_ne (by omega), cpm_ne (by omega), cpm_ne (by omega), wI_ne (by omega)]
  · rw [cpm_ne (by omega), cpm_ne (by omega), cpm_ne (by omega), wI_at]
  · rw [cpm_ne (by omega), cpm_ne (by omega), cpm_eq rfl (by omega) (by omega), wI_ne (by omega), show 0 + (2 + i - 2) = i by omega]
  · rw [cpm_ne (by omega), cpm_eq rfl (by omega) (by omega), cpm_ne (by omega), wI_ne (by omega), show 0 + (10 + i - 10) = i by omega]
  · rw [cpm_eq rfl (by omega) (by omega), cpm_ne (by omega), cpm_ne (by omega), wI_ne (by omega), show 0 + (18 + i - 18) = i by omega]
theorem v_keepN {μ : hm_M} {o f s d : Nat} (h1 : μ.1 o 1 = Int32.ofNat f) (h2 : μ.1 o 2 = Int32.ofNat s) (hf : f < 17) (hs : s < 17) : f_X7_keepNoted o (Int32.ofNat d) μ = some (if s < 16 then hm_wI (hm_wI μ (o + 2 + (f + s) % 17) 0 (Int32.ofNat d)) o 2 (Int32.ofNat (s + 1)) else hm_wI (hm_wI μ (o + 2 + (f + s) % 17) 0 (Int32.ofNat d)) o 1 (Int32.ofNat ((f + 1) % 17))) := by
  have hr : (f + s) % 17 < 17 := Nat.mod_lt _ (by decide)
  unfold f_X7_keepNoted
  rw [h1, h2, n_add, show (17 : Int32) = Int32.ofNat 17 from rfl, n_rem (by omega) (by decide), n_cl (by omega), ldR_n hr (by decide), Option.bind_some, show (0 : Int32) = Int32.ofNat 0 from rfl, sd_n (by decide) (by decide), Option.bind_some, wI_ne (by omega), wI_ne (by omega), h1, h2]
  by_cases z : s < 16
  · rw [if_neg (by rw [show (16 : Int32) = Int32.ofNat 16 from rfl, n_le (by omega) (by omega)]; omega), if_pos z, show Int32.ofNat s + 1 = Int32.ofNat (s + 1) from n_add s 1]
    rfl
  · rw [if_pos (by rw [show (16 : Int32) = Int32.ofNat 16 from rfl, n_le (by omega) (by omega)]; omega), if_neg z, show Int32.ofNat f + 1 = Int32.ofNat (f + 1) from n_add f 1, n_rem (by omega) (by decide)]
    rfl
theorem v_keeps {m : hm_M} {u d : Nat} (hu : m.1 179 33 = Int32.ofNat u) (hu2 : u ≤ 16) : ∃ m1, f_X10_keeps (Int32.ofNat d) m = some m1 ∧ (m1.2 = m.2 ∧ ∀ a j, a ≠ 193 → ¬ (a = 179 ∧ j = 33) → m1.1 a j = m.1 a j) ∧ m1.1 179 33 = Int32.ofNat (min u 15 + 1) ∧ (∀ j, j < 26 * min u 15 → m1.1 193 j = m.1 193 (if u = 16 then j + 26 else j)) ∧ (∀ i, i < 25 → m1.1 193 (26 * min u 15 + i) = m.1 181 i) ∧ m1.1 193 (26 * min u 15 + 25) = Int32.ofNat d := by
  have body : ∀ (w : Nat) (m2 : hm_M), w ≤ 15 → m2.1 179 33 = Int32.ofNat w → ∃ m1, f_X10_keeps_J52 (Int32.ofNat d) 26 m2 = some m1 ∧ (m1.2 = m2.2 ∧ ∀ a j, a ≠ 193 → ¬ (a = 179 ∧ j = 33) → m1.1 a j = m2.1 a j) ∧ m1.1 179 33 = Int32.ofNat (w + 1) ∧ (∀ j, j < 26 * w → m1.1 193 j = m2.1 193 j) ∧ (∀ i, i < 25 → m1.1 193 (26 * w + i) = m2.1 181 i) ∧ m1.1 193 (26 * w + 25) = Int32.ofNat d := by
    intro w m2 hw h33
    unfold f_X10_keeps_J52
    have ew : (26 : Int32) * Int32.ofNat w = Int32.ofNat (26 * w) := n_mul 26 w
    refine lo2 (L := f_X10_keeps_L54 (Int32.ofNat d) 26 _) (fun k y m3 => y = Int32.ofNat k ∧ (m3.2 = m2.2 ∧ ∀ a j, a ≠ 193 → m3.1 a j = m2.1 a j) ∧ (∀ j, j < 26 * w → m3.1 193 j = m2.1 193 j) ∧ ∀ i, i < k → m3.1 193 (26 * w + i) = m2.1 181 i) (fun o => ∃ m1, o = some m1 ∧ (m1.2 = m2.2 ∧ ∀ a j, a ≠ 193 → ¬ (a = 179 ∧ j = 33) → m1.1 a j = m2.1 a j) ∧ m1.1 179 33 = Int32.ofNat (w + 1) ∧ (∀ j, j < 26 * w → m1.1 193 j = m2.1 193 j) ∧ (∀ i, i < 25 → m1.1 193 (26 * w + i) = m2.1 181 i) ∧ m1.1 193 (26 * w + 25) = Int32.ofNat d) 25 (fun k y m3 hk hI => Or.inl ?_) (fun y m3 hI F => ?_) (fu_lt (by decide)) ⟨rfl, ⟨rfl, fun _ _ _ => rfl⟩, fun _ _ => rfl, fun i hi => absurd hi (Nat.not_lt_zero i)⟩
    · obtain ⟨rfl, ⟨f1, f2⟩, f3, f4⟩ := hI
      refine ⟨_, hm_wI m3 193 (26 * w + k) (m2.1 181 k), ⟨rfl, ⟨f1, fun a j ha => by rw [wI_ne (by omega)]; exact f2 a j ha⟩, fun j hj => by rw [wI_ne (by omega)]; exact f3 j hj, fun i hi => ?_⟩, fun F => ?_⟩
      · by_cases z : i = k
        · subst z; rw [wI_at]
        · rw [wI_ne (by omega)]; exact f4 i (by omega)
      · rw [f_X10_keeps_L54, if_neg (by rw [show (25 : Int32) = Int32.ofNat 25 from rfl, n_le (by omega) (by omega)]; omega), ld_n (by omega) (by decide), Option.bind_some, f2 179 33 (by decide), h33, ew, n_add, sd_n (by omega) (by decide), Option.bind_some, f2 181 k (by decide), show Int32.ofNat k + 1 = Int32.ofNat (k + 1) from n_add k 1]
    · obtain ⟨rfl, ⟨f1, f2⟩, f3, f4⟩ := hI
      refine ⟨hm_wI (hm_wI m3 193 (26 * w + 25) (Int32.ofNat d)) 179 33 (Int32.ofNat (w + 1)), ?_, ⟨f1, fun a j h1 h2 => ?_⟩, wI_at _ _ _ _, fun j hj => ?_, fun i hi => ?_, ?_⟩
      · rw [f_X10_keeps_L54, if_pos (by decide), f2 179 33 (by decide), h33, ew, show Int32.ofNat (26 * w) + 25 = Int32.ofNat (26 * w + 25) from n_add _ 25, sd_n (by omega) (by decide), Option.bind_some, wI_ne (by omega), f2 179 33 (by decide), h33, show Int32.ofNat w + 1 = Int32.ofNat (w + 1) from n_add w 1]
        rfl
      · rw [wI_ne (by omega), wI_ne (by omega)]; exact f2 a j h1
      · rw [wI_ne (by omega), wI_ne (by omega)]; exact f3 j hj
      · rw [wI_ne (by omega), wI_ne (by omega)]; exact f4 i hi
      · rw [wI_ne (by omega), wI_at]
  unfold f_X10_keeps
  by_cases z : u = 16
  · subst z
    have hm15 : min 16 15 = 15 := rfl
    rw [hu, if_pos (by decide)]
    have lp : ∀ (e : hm_M → Option hm_M), f_X10_keeps_L14 (Int32.ofNat d) 26 e hm_fu (Int32.ofNat 0) m = e (cpm m 193 26 193 0 390) := fun e => cpy_loop (Or.inr (by decide)) (fun F k m2 hk => by
      rw [f_X10_keeps_L14, if_neg (by rw [show (15 : Int32) * 26 = Int32.ofNat 390 from rfl, n_le (by omega) (by omega)]; omega), show (26 : Int32) = Int32.ofNat 26 from rfl, n_add, ld_n (by omega) (by decide), Option.bind_some, sd_n (by omega) (by decide), Option.bind_some, show Int32.ofNat k + 1 = Int32.ofNat (k + 1) from n_add k 1, Nat.zero_add, Nat.add_comm k 26]) (fun F m2 => by
      rw [f_X10_keeps_L14, if_pos (by decide)]) (fu_lt (by decide)) m
    rw [show (0 : Int32) = Int32.ofNat 0 from rfl, lp]
    have h33 : (hm_wI (cpm m 193 26 193 0 390) 179 33 (Int32.ofNat 15)).1 179 33 = Int32.ofNat 15 := wI_at _ _ _ _
    obtain ⟨m1, b1, ⟨b2, b3⟩, b4, b5, b6, b7⟩ := body 15 _ (by decide) h33
    refine ⟨m1, ?_, ⟨b2, fun a j h1 h2 => ?_⟩, b4, fun j hj => ?_, fun i hi => ?_, b7⟩
    · show Option.bind (hm_pI (cpm m 193 26 193 0 390) 179 33 ((cpm m 193 26 193 0 390).1 179 33 - 1)) _ = _
      rw [cpm_ne (by omega), hu, show Int32.ofNat 16 - 1 = Int32.ofNat 15 from rfl, pI_some, Option.bind_some]
      exact b1
    · rw [b3 a j h1 h2, wI_ne (by omega), cpm_ne (by omega)]
    · rw [b5 j hj, wI_ne (by omega), cpm_eq rfl (by omega) (by omega), if_pos rfl, show 26 + (j - 0) = j + 26 by omega]
    · rw [hm15, b6 i hi, wI_ne (by omega), cpm_ne (by omega)]
  · have hm : min u 15 = u := by omega
    rw [hu, if_neg (by rw [show (16 : Int32) = Int32.ofNat 16 from rfl, n_eq (by omega) (by omega)]; exact z), hm]
    obtain ⟨m1, b1, b2, b4, b5, b6, b7⟩ := body u m (by omega) hu
    exact ⟨m1, b1, b2, b4, fun j hj => by rw [b5 j hj, if_neg z], b6, b7⟩
/-- the steps behind one more -/
theorem ps_one {μ μ2 : hm_M} {f s d : Nat} {ρ : Nat → Int32} (h : PS μ) (hf : μ.1 87 1 = Int32.ofNat f) (hs : μ.1 87 2 = Int32.ofNat s) (hfl : f < 17) (hsl : s < 17) (hd : d < 4) (hD : DW ρ) (h54 : nat (μ.1 181 54) = nat (ρ 54)) (e54 : nat (μ2.1 181 54) = nat (ρ 54))
    (n1 : μ2.1 87 1 = Int32.ofNat (if s < 16 then f else (f + 1) % 17)) (n2 : μ2.1 87 2 = Int32.ofNat (min s 15 + 1)) (n3 : μ2.1 179 33 = Int32.ofNat (min s 15 + 1))
    (r1 : ∀ k j, k < 17 → k ≠ (f + s) % 17 → μ2.1 (89 + k) j = μ.1 (89 + k) j)
    (r2 : μ2.1 (89 + (f + s) % 17) 0 = Int32.ofNat d ∧ μ2.1 (89 + (f + s) % 17) 1 = ρ 24 ∧ ∀ i, i < 8 → μ2.1 (89 + (f + s) % 17) (2 + i) = ρ i ∧ μ2.1 (89 + (f + s) % 17) (10 + i) = ρ (8 + i) ∧ μ2.1 (89 + (f + s) % 17) (18 + i) = ρ (16 + i))
    (q1 : ∀ j, j < 26 * min s 15 → μ2.1 193 j = μ.1 193 (if s = 16 then j + 26 else j)) (q2 : ∀ i, i < 25 → μ2.1 193 (26 * min s 15 + i) = ρ i) (q3 : μ2.1 193 (26 * min s 15 + 25) = Int32.ofNat d) : PS μ2 := by
  obtain ⟨a1, a2, a3, a4⟩ := h
  have es : nat (μ.1 87 2) = s := by rw [hs, nat_n (by omega)]
  have ef : nat (μ.1 87 1) = f := by rw [hf, nat_n (by omega)]
  rw [es, ef] at a4
  have hr : (f + s) % 17 < 17 := Nat.mod_lt _ (by decide)
  have ef2 : nat (μ2.1 87 1) = if s < 16 then f else (f + 1) % 17 := by rw [n1, nat_n (by split <;> omega)]
  refine ⟨?_, ?_, by rw [n2, n3], ?_⟩
  · rw [n1]; exact bd_n (by split <;> omega) (by decide)
  · rw [n2]; exact bd_n (by omega) (by decide)
  · rw [n2, nat_n (by omega), ef2]
    intro i hi
    by_cases last : i = min s 15
    · subst last
      have er : ((if s < 16 then f else (f + 1) % 17) + min s 15) % 17 = (f + s) % 17 := by
        by_cases z : s < 16
        · rw [if_pos z, Nat.min_eq_left (by omega)]
        · rw [if_neg z, Nat.min_eq_right (by omega), show s = 16 by omega]; omega
      unfold st_row
      rw [er, r2.1, q3, r2.2.1, q2 24 (by omega)]
      refine ⟨⟨rfl, bd_n hd (by decide), rfl, hD.2.2.1.1⟩, fun j hj => ?_, fun p q hp hq => ?_, fun p q hp => ?_⟩
      · obtain ⟨w1, w2, w3⟩ := r2.2.2 j hj
        rw [w1, w2, w3, q2 j (by omega), Nat.add_assoc (26 * min s 15) 8 j, q2 (8 + j) (by omega), Nat.add_assoc (26 * min s 15) 16 j, q2 (16 + j) (by omega)]
        obtain ⟨u1, u2, u3, u4⟩ := hD.2.1 j hj
        exact ⟨⟨rfl, u1⟩, ⟨rfl, u2⟩, rfl, u4⟩
      · rw [Nat.add_assoc (26 * min s 15) 16 p, Nat.add_assoc (26 * min s 15) 16 q, q2 (16 + p) (by omega), q2 (16 + q) (by omega)]
        exact hD.2.2.2.1 p q hp hq
      · rw [Nat.add_assoc (26 * min s 15) 16 p, q2 (16 + p) (by omega), e54]
        exact hD.2.2.2.2 p q hp
    · have hi2 : i < min s 15 := by omega
      have old : st_row μ 89 f 193 (if s = 16 then i + 1 else i) := a4 _ (by split <;> omega)
      have er : ((if s < 16 then f else (f + 1) % 17) + i) % 17 = (f + (if s = 16 then i + 1 else i)) % 17 := by
        by_cases z : s < 16
        · rw [if_pos z, if_neg (by omega)]
        · rw [if_neg z, if_pos (by omega)]; omega
      have ne : (f + (if s = 16 then i + 1 else i)) % 17 ≠ (f + s) % 17 := by
        by_cases z : s = 16
        · rw [if_pos z]; omega
        · rw [if_neg z]; omega
      have hr2 : (f + (if s = 16 then i + 1 else i)) % 17 < 17 := Nat.mod_lt _ (by decide)
      have eq : ∀ j, j < 26 → μ2.1 193 (26 * i + j) = μ.1 193 (26 * (if s = 16 then i + 1 else i) + j) := by
        intro j hj
        rw [q1 _ (by omega)]
        by_cases z : s = 16
        · rw [if_pos z, if_pos z, show 26 * i + j + 26 = 26 * (i + 1) + j by omega]
        · rw [if_neg z, if_neg z]
      unfold st_row at old ⊢
      rw [er]
      generalize hI : (if s = 16 then i + 1 else i) = I at old ne hr2 eq
      refine ⟨?_, fun j hj => ?_, fun p q hp hq => ?_, fun p q hp => ?_⟩
      · rw [r1 _ _ hr2 ne, r1 _ _ hr2 ne, eq 25 (by omega), eq 24 (by omega)]
        exact old.1
      · rw [r1 _ _ hr2 ne, r1 _ _ hr2 ne, r1 _ _ hr2 ne, eq j (by omega), Nat.add_assoc (26 * i) 8 j, eq (8 + j) (by omega), Nat.add_assoc (26 * i) 16 j, eq (16 + j) (by omega), ← Nat.add_assoc, ← Nat.add_assoc]
        exact old.2.1 j hj
      · rw [Nat.add_assoc (26 * i) 16 p, Nat.add_assoc (26 * i) 16 q, eq (16 + p) (by omega), eq (16 + q) (by omega), ← Nat.add_assoc, ← Nat.add_assoc]
        exact old.2.2.1 p q hp hq
      · rw [Nat.add_assoc (26 * i) 16 p, eq (16 + p) (by omega), ← Nat.add_assoc, e54, ← h54]
        exact old.2.2.2 p q hp
end
