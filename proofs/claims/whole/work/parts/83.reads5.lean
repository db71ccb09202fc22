section
def ft (μ m : hm_M) : Prop := m.2 = μ.2 ∧ ∀ a j, ¬ (a = 179 ∧ ((8 ≤ j ∧ j ≤ 10) ∨ j = 13 ∨ j = 14 ∨ (18 ≤ j ∧ j ≤ 21))) → a ≠ 188 → a ≠ 189 → a ≠ 190 → m.1 a j = μ.1 a j
theorem ft_trans {μ m m1 : hm_M} (h : ft μ m) (g : ft m m1) : ft μ m1 := ⟨g.1.trans h.1, fun a j z z2 z3 z4 => (g.2 a j z z2 z3 z4).trans (h.2 a j z z2 z3 z4)⟩
theorem fx_ft {μ m : hm_M} (f : fx μ m) : ft μ m := ⟨f.1, fun a j z _ _ _ => f.2 a j (by omega)⟩
theorem fk_ft {μ m : hm_M} (f : fk μ m) : ft μ m := ⟨f.1, fun a j z z2 z3 z4 => f.2 a j (by omega) z2 z3 z4⟩
theorem ft_w {μ m : hm_M} (h : ft μ m) {j : Nat} (hj : (8 ≤ j ∧ j ≤ 10) ∨ j = 13 ∨ j = 14 ∨ (18 ≤ j ∧ j ≤ 21)) (x : Int32) : ft μ (hm_wI m 179 j x) := ⟨h.1, fun a k z z2 z3 z4 => by rw [wI_ne (by omega)]; exact h.2 a k z z2 z3 z4⟩
theorem v_reads {μ : hm_M} {T : Nat → Nat} {n : Nat} {ord : Bool} (hT : TX μ T n) (hC : PC μ) (h13 : μ.1 179 13 = Int32.ofNat n) (h10 : μ.1 179 10 = zb ord) (h8 : μ.1 179 8 = Int32.ofNat (if ord = true then 15 else 8)) (h9 : μ.1 179 9 = Int32.ofNat (if ord = true then 21 else 15)) : ∃ x m, f_X10_reads μ = some (x, m) ∧ ft μ m ∧ TK m T n (tmy T n + 1) ∧ m.1 179 18 = Int32.ofNat (tmy T n) ∧ m.1 179 13 = 0 ∧ match pc_text ord (tkc T n) (vlc T n) (tmy T n) 12 0 0 [] [] with
    | .error e => x = 0 ∧ m.1 179 14 = Int32.ofNat (tst T n e) ∧ e ≤ tmy T n
    | .ok _ => x = 1 ∧ m.1 179 14 = -1 := by
  have hn := hT.1
  obtain ⟨m0, s1, s2, s3, s4⟩ := sp_full hT hC
  unfold f_X10_reads
  rw [h13, s4, Option.bind_some, pI_some, Option.bind_some, pI_some, Option.bind_some, pI_some, Option.bind_some, pI_some, Option.bind_some]
  generalize hm7 : hm_wI (hm_wI (hm_wI (hm_wI m0 179 13 0) 179 19 0) 179 20 0) 179 21 (-1) = m7
  have w7 : ∀ a j, ¬ (a = 179 ∧ (j = 13 ∨ j = 19 ∨ j = 20 ∨ j = 21)) → m7.1 a j = m0.1 a j := fun a j z => by rw [← hm7, wI_ne (by omega), wI_ne (by omega), wI_ne (by omega), wI_ne (by omega)]
  have r7 : m7.2 = m0.2 := by rw [← hm7]; rfl
  have k13 : m7.1 179 13 = 0 := by rw [← hm7, wI_ne (by omega), wI_ne (by omega), wI_ne (by omega), wI_at]
  have k18 : m7.1 179 18 = Int32.ofNat (tmy T n) := by rw [w7 _ _ (by omega)]; exact s3
  have f7 : ft μ m7 := ft_trans (fk_ft s1) ⟨r7, fun a j z _ _ _ => w7 a j (by omega)⟩
  have R0 : RA m7 T n ord 0 0 := by
    refine ⟨⟨fun k hk => ?_, ⟨hn, fun i hi => (hT.2 i hi).1⟩, ?_, ?_, ?_⟩, ⟨by omega, by omega⟩, ?_, ?_, ?_⟩
    · rw [w7 _ _ (by omega), w7 _ _ (by omega), w7 _ _ (by omega)]
      exact s2 k hk
    · rw [w7 _ _ (by omega), s1.2 _ _ (by omega) (by omega) (by omega) (by omega)]; exact h10
    · rw [w7 _ _ (by omega), s1.2 _ _ (by omega) (by omega) (by omega) (by omega)]; exact h8
    · rw [w7 _ _ (by omega), s1.2 _ _ (by omega) (by omega) (by omega) (by omega)]; exact h9
    · rw [← hm7, wI_ne (by omega), wI_ne (by omega), wI_at]; rfl
    · rw [← hm7, wI_ne (by omega), wI_at]; rfl
    · rw [← hm7, wI_at]
  have h18 : ∀ m μ : hm_M, fx μ m → μ.1 179 18 = Int32.ofNat (tmy T n) → m.1 179 18 = Int32.ofNat (tmy T n) := fun m μ f h => by rw [f.2 _ _ (by omega)]; exact h
  -- the last step
  have fin : ∀ m, fx m7 m → ∀ x : Bool, (m.1 179 21 = -1 ↔ x = true) → f_X10_reads_J95 m = some (zb x, hm_wI m 179 14 (m.1 179 21)) := by
    intro m f x hx
    unfold f_X10_reads_J95 f_X10_fine
    rw [pI_some, Option.bind_some, wI_ne (by omega)]
    cases x with
    | true => rw [if_pos (hx.2 rfl)]; rfl
    | false => rw [if_neg fun z => by cases hx.1 z]; rfl
  have out : ∀ m, fx m7 m → ft μ (hm_wI m 179 14 (m.1 179 21)) ∧ TK (hm_wI m 179 14 (m.1 179 21)) T n (tmy T n + 1) ∧ (hm_wI m 179 14 (m.1 179 21)).1 179 18 = Int32.ofNat (tmy T n) ∧ (hm_wI m 179 14 (m.1 179 21)).1 179 13 = 0 := by
    intro m f
    refine ⟨ft_w (ft_trans f7 (fx_ft f)) (by omega) _, fun k hk => ?_, ?_, ?_⟩
    · rw [wI_ne (by omega), wI_ne (by omega), wI_ne (by omega)]
      exact (R0.1.fx f).1 k hk
    · rw [wI_ne (by omega)]
      exact h18 _ _ f k18
    · rw [wI_ne (by omega), f.2 _ _ (by omega)]
      exact k13
  have te : ∃ m, (Option.bind (f_X10_readOne m7) fun μ9 => f_X10_reads_L34 e73 hm_fu (1 : Int32) μ9) = f_X10_reads_J95 m ∧ fx m7 m ∧ match pc_text ord (tkc T n) (vlc T n) (tmy T n) 12 0 0 [] [] with
      | .error e => e ≤ tmy T n ∧ m.1 179 21 = Int32.ofNat (tst T n e)
      | .ok _ => m.1 179 21 = -1 := by
    obtain ⟨m, r1, r2, r3⟩ := rd_one (C := []) R0
    rw [r1, Option.bind_some]
    unfold pc_text
    generalize pc_one ord (tkc T n) (vlc T n) 0 0 [] = r at r3
    match r, r3 with
    | .error e, r3 =>
      refine ⟨m, ?_, r2, r3⟩
      exact nf_34 (nf_of hn r3.2) 999999 1
    | .ok (j2, l2, C2, k), r3 =>
      obtain ⟨m2, q1, q2, q3⟩ := rd_more (T := T) (n := n) (ord := ord) rfl h18 11 hm_fu m j2 l2 C2 ([] ++ [k]) (by omega) (fu_lt (by omega)) (h18 _ _ r2 k18) r3.2
      exact ⟨m2, q1, fx_trans r2 q2, q3⟩
  obtain ⟨m, e1, e2, e3⟩ := te
  obtain ⟨o1, o2, o3, o4⟩ := out m e2
  generalize hr : pc_text ord (tkc T n) (vlc T n) (tmy T n) 12 0 0 [] [] = r at e3
  match r, e3 with
  | .error e, e3 =>
    have hx : m.1 179 21 = -1 ↔ false = true := by
      refine ⟨fun z => ?_, fun z => by cases z⟩
      have h1 := nf_fine (nf_of hn e3.2)
      unfold f_X10_fine at h1
      rw [if_pos z] at h1
      cases h1
    refine ⟨_, _, e1.trans (fin m e2 false hx), o1, o2, o3, o4, rfl, ?_, e3.1⟩
    rw [wI_at]
    exact e3.2
  | .ok q, e3 =>
    refine ⟨_, _, e1.trans (fin m e2 true ⟨fun _ => rfl, fun _ => e3⟩), o1, o2, o3, o4, rfl, ?_⟩
    rw [wI_at]
    exact e3
theorem v_readsAs {μ : hm_M} {T : Nat → Nat} {n : Nat} (ord : Bool) (hT : TX μ T n) (hC : PC μ) (h13 : μ.1 179 13 = Int32.ofNat n) : ∃ x m, f_X10_readsAs (zb ord) μ = some (x, m) ∧ ft μ m ∧ TK m T n (tmy T n + 1) ∧ m.1 179 18 = Int32.ofNat (tmy T n) ∧ m.1 179 13 = 0 ∧ match pc_text ord (tkc T n) (vlc T n) (tmy T n) 12 0 0 [] [] with
    | .error e => x = 0 ∧ m.1 179 14 = Int32.ofNat (tst T n e) ∧ e ≤ tmy T n
    | .ok _ => x = 1 ∧ m.1 179 14 = -1 := by
  unfold f_X10_readsAs f_X10_readsAs_J17 f_X10_readsAs_J32
  rw [zb_pZ, Option.bind_some]
  have key : ∀ a b : Int32, a = Int32.ofNat (if ord = true then 15 else 8) → b = Int32.ofNat (if ord = true then 21 else 15) → ∃ x m, (Option.bind (hm_pI (hm_wI μ 179 10 (zb ord)) 179 8 a) fun μ3 => Option.bind (hm_pI μ3 179 9 b) fun μ4 => hm_b2 (f_X10_reads μ4) fun x5 μ6 => Option.bind (hm_rz x5) fun x7 => some (x7, μ6)) = some (x, m) ∧ ft μ m ∧ TK m T n (tmy T n + 1) ∧ m.1 179 18 = Int32.ofNat (tmy T n) ∧ m.1 179 13 = 0 ∧ match pc_text ord (tkc T n) (vlc T n) (tmy T n) 12 0 0 [] [] with
    | .error e => x = 0 ∧ m.1 179 14 = Int32.ofNat (tst T n e) ∧ e ≤ tmy T n
    | .ok _ => x = 1 ∧ m.1 179 14 = -1 := by
    rintro a b rfl rfl
    rw [pI_some, Option.bind_some, pI_some, Option.bind_some]
    generalize hm4 : hm_wI (hm_wI (hm_wI μ 179 10 (zb ord)) 179 8 (Int32.ofNat (if ord = true then 15 else 8))) 179 9 (Int32.ofNat (if ord = true then 21 else 15)) = m4
    have f4 : ft μ m4 := by
      rw [← hm4]
      exact ft_w (ft_w (ft_w ⟨rfl, fun _ _ _ _ _ _ => rfl⟩ (by omega) _) (by omega) _) (by omega) _
    have T4 : TX m4 T n := ⟨hT.1, fun i hi => ⟨(hT.2 i hi).1, by rw [f4.2 _ _ (by omega) (by omega) (by omega) (by omega)]; exact (hT.2 i hi).2⟩⟩
    have C4 : PC m4 := hC.same fun j => f4.2 _ _ (by omega) (by omega) (by omega) (by omega)
    obtain ⟨x, m, q1, q2, q3, q4, q5, q6⟩ := v_reads (ord := ord) T4 C4 (by rw [← hm4, wI_ne (by omega), wI_ne (by omega), wI_ne (by omega)]; exact h13) (by rw [← hm4, wI_ne (by omega), wI_ne (by omega), wI_at]) (by rw [← hm4, wI_ne (by omega), wI_at]) (by rw [← hm4, wI_at])
    have rz : hm_rz x = some x := by
      generalize pc_text ord (tkc T n) (vlc T n) (tmy T n) 12 0 0 [] [] = r at q6
      match r, q6 with
      | .error e, q6 => rw [q6.1]; rfl
      | .ok q, q6 => rw [q6.1]; rfl
    refine ⟨x, m, ?_, ft_trans f4 q2, q3, q4, q5, q6⟩
    rw [q1, b2_some, rz, Option.bind_some]
  cases ord with
  | false =>
    simp only [if_pos (show zb false = 0 from rfl)]
    exact key 8 15 rfl rfl
  | true =>
    simp only [if_neg (show ¬ zb true = 0 by decide)]
    exact key 15 21 rfl rfl
end
