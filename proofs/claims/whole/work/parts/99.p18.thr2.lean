section
variable {m : hm_M} {n : Nat} {r : List Nat} {ρ : Nat → Int32}
/-- what was seen, in its bounds -/
def SNb (ρ : Nat → Int32) (n : Nat) : Prop := bd (ρ 55) 7 ∧ ∀ k, k < nat (ρ 55) → bd (ρ (33 + 3 * k)) n ∧ bd (ρ (34 + 3 * k)) n
theorem v_isSo (hn : n ≤ 8) (hn1 : 1 ≤ n) (hρ : m.1 181 = ρ) (h54 : ρ 54 = Int32.ofNat n) (hS : SNb ρ n) (hr : RWm m n r) : f_X10_isSo m = some (zb (soP n ρ r)) := by
  have h7 := hS.1.2
  unfold f_X10_isSo soP
  generalize hf : (fun k => adjp n r (nat (ρ (33 + 3 * k))) (nat (ρ (34 + 3 * k))) == decide (ρ (35 + 3 * k) = 1)) = f
  refine lo3 (L := f_X10_isSo_L4 (fun z7_1 μz7 => hm_rz z7_1)) (fun k y1 y2 m1 => y1 = zb (allb f k) ∧ y2 = Int32.ofNat k ∧ m1 = m) (fun o => o = _) (nat (ρ 55)) (fun k y1 y2 m1 hk hI => ?_) (fun y1 y2 m1 hI F => ?_) (fu_lt (by omega)) ⟨rfl, rfl, rfl⟩
  · obtain ⟨rfl, rfl, rfl⟩ := hI
    have st : ∀ F, f_X10_isSo_L4 (fun z7_1 μz7 => hm_rz z7_1) (F + 1) (zb (allb f k)) (Int32.ofNat k) m1 = if zb (allb f k) = 0 then hm_rz (zb (allb f k)) else f_X10_isSo_L4 (fun z7_1 μz7 => hm_rz z7_1) F (zb (f k)) (Int32.ofNat (k + 1)) m1 := fun F => by
      obtain ⟨b1, b2⟩ := hS.2 k hk
      rw [f_X10_isSo_L4, show (55 : Int32) = Int32.ofNat 55 from rfl, ld_n (by omega) (by decide), Option.bind_some, hρ, hS.1.1, if_neg (by rw [n_le (by omega) (by omega)]; omega)]
      by_cases z : zb (allb f k) = 0
      · rw [if_pos z, if_pos z]
      · rw [if_neg z, if_neg z, show (33 : Int32) = Int32.ofNat 33 from rfl, show (3 : Int32) = Int32.ofNat 3 from rfl, n_mul, n_add, ld_n (by omega) (by decide), Option.bind_some, show (1 : Int32) = Int32.ofNat 1 from rfl, n_add, ld_n (by omega) (by decide), Option.bind_some, hρ, show 33 + 3 * k + 1 = 34 + 3 * k by omega, b1.1, b2.1, v_areN hn hn1 (by rw [hρ]; exact h54) hr (by have := b1.2; omega) (by have := b2.2; omega), Option.bind_some, show (2 : Int32) = Int32.ofNat 2 from rfl, n_add, ld_n (by omega) (by decide), Option.bind_some, hρ, show 33 + 3 * k + 2 = 35 + 3 * k by omega]
        unfold f_X10_isSo_J69 f_X10_isSo_J77
        have ef : f k = (adjp n r (nat (ρ (33 + 3 * k))) (nat (ρ (34 + 3 * k))) == decide (ρ (35 + 3 * k) = 1)) := by rw [← hf]
        rw [show Int32.ofNat k + 1 = Int32.ofNat (k + 1) from n_add k 1, ef]
        by_cases y : ρ (35 + 3 * k) = Int32.ofNat 1
        · rw [if_pos y, decide_eq_true (show ρ (35 + 3 * k) = 1 from y)]
          cases adjp n r (nat (ρ (33 + 3 * k))) (nat (ρ (34 + 3 * k))) <;> rfl
        · rw [if_neg y, decide_eq_false (show ¬ ρ (35 + 3 * k) = 1 from y)]
          cases adjp n r (nat (ρ (33 + 3 * k))) (nat (ρ (34 + 3 * k))) <;> rfl
    cases ha : allb f k with
    | false =>
      rw [ha] at st
      refine Or.inr fun F => ?_
      rw [st, if_pos (show zb false = 0 from rfl), allb_f ha (by omega)]
      rfl
    | true =>
      rw [ha] at st
      refine Or.inl ⟨_, _, m1, ⟨rfl, rfl, rfl⟩, fun F => ?_⟩
      rw [st, if_neg (show ¬ zb true = 0 by decide), show allb f (k + 1) = (allb f k && f k) from rfl, ha, Bool.true_and]
  · obtain ⟨rfl, rfl, rfl⟩ := hI
    rw [f_X10_isSo_L4, show (55 : Int32) = Int32.ofNat 55 from rfl, ld_n (by omega) (by decide), Option.bind_some, hρ, hS.1.1, nat_n (by omega), if_pos (by rw [n_le (by omega) (by omega)]; omega), zb_rz]
theorem RWm.f {m1 : hm_M} (h : RWm m n r) (f : ∀ j, m1.1 197 j = m.1 197 j) : RWm m1 n r := fun i hi => by rw [f]; exact h i hi
theorem v_cR {st : gS} (hn : n ≤ 8) (hn1 : 1 ≤ n) (hρ : m.1 181 = ρ) (h54 : ρ 54 = Int32.ofNat n) (hS : SNb ρ n) (hr : RWm m n r) (hG : GR m n st) (hF : st.2.1 < 3000000) : ∃ m1, f_X10_countsRing m = some m1 ∧ GR m1 n (gup n (soP n ρ r) r st) ∧ fCr m m1 := by
  obtain ⟨g1, g2, g3, g4⟩ := hG
  have e54 : m.1 181 54 = Int32.ofNat n := by rw [hρ]; exact h54
  unfold f_X10_countsRing
  rw [g1, show Int32.ofNat st.1 + 1 = Int32.ofNat (st.1 + 1) from n_add _ 1, pI_some, Option.bind_some, v_isSo hn hn1 (by rw [← hρ]; exact funext fun j => wI_ne (by omega)) h54 hS (hr.f fun j => wI_ne (by omega)), Option.bind_some]
  generalize hm2 : hm_wI m 179 41 (Int32.ofNat (st.1 + 1)) = m2
  have f2 : m2.2 = m.2 ∧ ∀ a j, ¬ (a = 179 ∧ j = 41) → m2.1 a j = m.1 a j := ⟨by rw [← hm2]; rfl, fun a j z => by rw [← hm2, wI_ne z]⟩
  have k41 : m2.1 179 41 = Int32.ofNat (st.1 + 1) := by rw [← hm2, wI_at]
  unfold gup
  cases hso : soP n ρ r with
  | false =>
    rw [if_pos (show zb false = 0 from rfl), if_neg (by decide)]
    exact ⟨m2, rfl, ⟨k41, by rw [f2.2 _ _ (by omega)]; exact g2, fun g hg i hi => by rw [f2.2 _ _ (by omega)]; exact g3 g hg i hi, fun a b ha hb => by rw [f2.2 _ _ (by omega)]; exact g4 a b ha hb⟩, f2.1, fun a j z1 z2 z3 => f2.2 a j (by omega)⟩
  | true =>
    rw [if_neg (show ¬ zb true = 0 by decide), if_pos rfl]
    -- the counts
    have J : ∀ m3 : hm_M, fCr m m3 → m3.1 179 41 = Int32.ofNat (st.1 + 1) → m3.1 179 42 = Int32.ofNat st.2.1 → (∀ a b, a < 8 → b < 8 → m3.1 199 (8 * a + b) = Int32.ofNat (st.2.2.2 a b)) → ∃ m4, f_X10_countsRing_J53 m3 = some m4 ∧ fCr m m4 ∧ m4.1 179 41 = Int32.ofNat (st.1 + 1) ∧ m4.1 179 42 = Int32.ofNat (st.2.1 + 1) ∧ (∀ j, m4.1 198 j = m3.1 198 j) ∧ ∀ a b, a < 8 → b < 8 → m4.1 199 (8 * a + b) = Int32.ofNat (st.2.2.2 a b + incN n r a b) := by
      intro m3 f3 h41 h42 h99
      unfold f_X10_countsRing_J53
      rw [h42, show Int32.ofNat st.2.1 + 1 = Int32.ofNat (st.2.1 + 1) from n_add _ 1, pI_some, Option.bind_some]
      refine lo2 (L := f_X10_countsRing_L65 (fun m => some m)) (fun k y m4 => y = Int32.ofNat k ∧ m4.2 = m.2 ∧ (∀ a j, a ≠ 199 → m4.1 a j = (hm_wI m3 179 42 (Int32.ofNat (st.2.1 + 1))).1 a j) ∧ ∀ a b, a < 8 → b < 8 → m4.1 199 (8 * a + b) = Int32.ofNat (st.2.2.2 a b + smf (fun i => if min (rowg r i) (rowg r ((i + 1) % n)) = a ∧ max (rowg r i) (rowg r ((i + 1) % n)) = b then 1 else 0) k)) (fun o => ∃ m4, o = some m4 ∧ fCr m m4 ∧ m4.1 179 41 = Int32.ofNat (st.1 + 1) ∧ m4.1 179 42 = Int32.ofNat (st.2.1 + 1) ∧ (∀ j, m4.1 198 j = m3.1 198 j) ∧ ∀ a b, a < 8 → b < 8 → m4.1 199 (8 * a + b) = Int32.ofNat (st.2.2.2 a b + incN n r a b)) n (fun k y m4 hk hI => Or.inl ?_) (fun y m4 hI F => ?_) (fu_lt (by omega)) ⟨rfl, f3.1, fun _ _ _ => rfl, fun a b ha hb => by rw [wI_ne (by omega)]; exact h99 a b ha hb⟩
      · obtain ⟨rfl, i1, i2, i3⟩ := hI
        have hm : (k + 1) % n < n := Nat.mod_lt _ hn1
        obtain ⟨r1, r2⟩ := hr k hk
        obtain ⟨r3, r4⟩ := hr _ hm
        have w97 : ∀ j, m4.1 197 j = m.1 197 j := fun j => by rw [i2 _ _ (by omega), wI_ne (by omega), f3.2 _ _ (by omega) (by omega) (by omega)]
        have w54 : m4.1 181 54 = Int32.ofNat n := by rw [i2 _ _ (by omega), wI_ne (by omega), f3.2 _ _ (by omega) (by omega) (by omega)]; exact e54
        generalize hx : rowg r k = x at r1 r2
        generalize hy : rowg r ((k + 1) % n) = y at r3 r4
        refine ⟨_, hm_wI m4 199 (8 * min x y + max x y) (Int32.ofNat (st.2.2.2 (min x y) (max x y) + smf (fun i => if min (rowg r i) (rowg r ((i + 1) % n)) = min x y ∧ max (rowg r i) (rowg r ((i + 1) % n)) = max x y then 1 else 0) k + 1)), ⟨rfl, i1, fun a j z => by rw [wI_ne (by omega)]; exact i2 a j z, fun a b ha hb => ?_⟩, fun F => ?_⟩
        · show _ = Int32.ofNat (st.2.2.2 a b + (smf (fun i => if min (rowg r i) (rowg r ((i + 1) % n)) = a ∧ max (rowg r i) (rowg r ((i + 1) % n)) = b then 1 else 0) k + (if min (rowg r k) (rowg r ((k + 1) % n)) = a ∧ max (rowg r k) (rowg r ((k + 1) % n)) = b then 1 else 0)))
          rw [hx, hy]
          by_cases e : min x y = a ∧ max x y = b
          · rw [if_pos e, ← e.1, ← e.2, wI_at, Nat.add_assoc]
          · rw [if_neg e, wI_ne (by omega), Nat.add_zero]
            exact i3 a b ha hb
        · have l1 : f_X10_lesser (Int32.ofNat x) (Int32.ofNat y) = some (Int32.ofNat (min x y)) := v_less (by omega) (by omega)
          have l2 : f_X10_greater (Int32.ofNat x) (Int32.ofNat y) = some (Int32.ofNat (max x y)) := v_greater x y (by omega) (by omega)
          rw [f_X10_countsRing_L65, v_mny, w54, Option.bind_some, if_neg (by rw [n_le (by omega) (by omega)]; omega), ld_n (by omega) (by decide), Option.bind_some, w97, r1, Option.bind_some, show Int32.ofNat k + 1 = Int32.ofNat (k + 1) from n_add k 1, rm2_n (by omega) (by omega) hn1, Option.bind_some, ld_n (by omega) (by decide), Option.bind_some, w97, r3, l1, Option.bind_some, l2, Option.bind_some, show (8 : Int32) = Int32.ofNat 8 from rfl, n_mul, n_add, ld_n (by omega) (by decide), Option.bind_some, i3 _ _ (by omega) (by omega), show ∀ z, Int32.ofNat z + 1 = Int32.ofNat (z + 1) from fun z => n_add z 1, sd_n (by omega) (by decide), Option.bind_some]
      · obtain ⟨rfl, i1, i2, i3⟩ := hI
        refine ⟨m4, ?_, ⟨i1, fun a j z1 z2 z3 => ?_⟩, ?_, ?_, fun j => ?_, i3⟩
        · rw [f_X10_countsRing_L65, v_mny, show m4.1 181 54 = Int32.ofNat n by rw [i2 _ _ (by omega), wI_ne (by omega), f3.2 _ _ (by omega) (by omega) (by omega)]; exact e54, Option.bind_some, if_pos (by rw [n_le (by omega) (by omega)]; omega)]
        · rw [i2 a j z3, wI_ne (by omega)]; exact f3.2 a j z1 z2 z3
        · rw [i2 _ _ (by omega), wI_ne (by omega)]; exact h41
        · rw [i2 _ _ (by omega), wI_at]
        · rw [i2 _ _ (by omega), wI_ne (by omega)]
    have F2 : fCr m m2 := ⟨f2.1, fun a j z1 z2 z3 => f2.2 a j (by omega)⟩
    by_cases z : st.2.1 = 0
    · rw [f2.2 179 42 (by omega), g2, if_pos (show Int32.ofNat st.2.1 = 0 by rw [z]; rfl), if_pos z]
      refine lo2 (L := f_X10_countsRing_L27 (fun μz18 => f_X10_countsRing_J53 μz18)) (fun k y m3 => y = Int32.ofNat k ∧ m3.2 = m.2 ∧ (∀ a j, a ≠ 198 → m3.1 a j = m2.1 a j) ∧ ∀ i, i < k → m3.1 198 i = Int32.ofNat (rowg r i)) (fun o => ∃ m1, o = some m1 ∧ GR m1 n (st.1 + 1, st.2.1 + 1, some r, fun a b => st.2.2.2 a b + incN n r a b) ∧ fCr m m1) n (fun k y m3 hk hI => Or.inl ?_) (fun y m3 hI F => ?_) (fu_lt (by omega)) ⟨rfl, f2.1, fun _ _ _ => rfl, fun i hi => absurd hi (Nat.not_lt_zero _)⟩
      · obtain ⟨rfl, i1, i2, i3⟩ := hI
        refine ⟨_, hm_wI m3 198 k (Int32.ofNat (rowg r k)), ⟨rfl, i1, fun a j z => by rw [wI_ne (by omega)]; exact i2 a j z, fun i hi => ?_⟩, fun F => ?_⟩
        · by_cases e : i = k
          · rw [e, wI_at]
          · rw [wI_ne (by omega)]; exact i3 i (by omega)
        · rw [f_X10_countsRing_L27, v_mny, show m3.1 181 54 = Int32.ofNat n by rw [i2 _ _ (by omega), f2.2 _ _ (by omega)]; exact e54, Option.bind_some, if_neg (by rw [n_le (by omega) (by omega)]; omega), ld_n (by omega) (by decide), Option.bind_some, i2 _ _ (by omega), f2.2 _ _ (by omega), (hr k hk).1, sd_n (by omega) (by decide), Option.bind_some, show Int32.ofNat k + 1 = Int32.ofNat (k + 1) from n_add k 1]
      · obtain ⟨rfl, i1, i2, i3⟩ := hI
        obtain ⟨m4, j1, j2, j3, j4, j5, j6⟩ := J m3 ⟨i1, fun a j z1 z2 z3 => by rw [i2 a j z2]; exact f2.2 a j (by omega)⟩ (by rw [i2 _ _ (by omega)]; exact k41) (by rw [i2 _ _ (by omega), f2.2 _ _ (by omega)]; exact g2) (fun a b ha hb => by rw [i2 _ _ (by omega), f2.2 _ _ (by omega)]; exact g4 a b ha hb)
        refine ⟨m4, ?_, ⟨j3, j4, fun g hg i hi => ?_, j6⟩, j2⟩
        · rw [f_X10_countsRing_L27, v_mny, show m3.1 181 54 = Int32.ofNat n by rw [i2 _ _ (by omega), f2.2 _ _ (by omega)]; exact e54, Option.bind_some, if_pos (by rw [n_le (by omega) (by omega)]; omega)]
          exact j1
        · cases hg
          rw [j5]
          exact i3 i hi
    · rw [f2.2 179 42 (by omega), g2, if_neg (show ¬ Int32.ofNat st.2.1 = 0 by rw [show (0 : Int32) = Int32.ofNat 0 from rfl, n_eq (by omega) (by omega)]; exact z), if_neg z]
      obtain ⟨m4, j1, j2, j3, j4, j5, j6⟩ := J m2 F2 k41 (by rw [f2.2 _ _ (by omega)]; exact g2) (fun a b ha hb => by rw [f2.2 _ _ (by omega)]; exact g4 a b ha hb)
      exact ⟨m4, j1, ⟨j3, j4, fun g hg i hi => by rw [j5, f2.2 _ _ (by omega)]; exact g3 g hg i hi, j6⟩, j2⟩
end
