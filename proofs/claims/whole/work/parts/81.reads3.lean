section
variable {T : Nat → Nat} {n : Nat} {ord : Bool}
theorem tkc_end {i : Nat} (h : tmy T n ≤ i) : tkc T n i = 0 := by
  apply Decidable.byContradiction
  intro y
  have := tkc_0 y
  omega
theorem rd_loop {g : Nat → Nat} {kp : Nat → Nat → pc_C → pc_R pc_S} {k : hm_M → Option hm_M} {L : Nat → hm_M → Option hm_M} (hn : n ≤ 400) (g0 : g 0 = 0) (hst : ∀ F μ i l, RA μ T n ord i l → L (F + 1) μ = if g (tkc T n i) = 0 then some μ else Option.bind (k (hm_wI μ 179 19 (Int32.ofNat (i + 1)))) (L F)) (hnf : ∀ F m, NF m → L (F + 1) m = some m) (hp : ∀ m i l C, RA m T n ord i l → RE T n ord (i + 1) m (kp i l C) (k m)) : ∀ q F μ i l C s, tmy T n - i ≤ q → tmy T n - i < F → RA μ T n ord i l → RE T n ord i μ (pc_loop (tkc T n) g kp q i l C s) (L F μ)
  | q, 0, μ, i, l, C, s, _, h, _ => absurd h (Nat.not_lt_zero _)
  | 0, F + 1, μ, i, l, C, s, hq, hF, hR => by
    have := hR.2.1.1
    rw [hst F μ i l hR, tkc_end (show tmy T n ≤ i by omega), if_pos g0]
    exact ⟨μ, rfl, fx_refl μ, Nat.le_refl _, hR⟩
  | q + 1, F + 1, μ, i, l, C, s, hq, hF, hR => by
    rw [hst F μ i l hR]
    unfold pc_loop
    by_cases y : g (tkc T n i) = 0
    · rw [if_pos y, if_pos y]
      exact ⟨μ, rfl, fx_refl μ, Nat.le_refl _, hR⟩
    · rw [if_neg y, if_neg y]
      have hi := tkc_0 (T := T) (n := n) (i := i) (fun z => y (by rw [z]; exact g0))
      refine RE.bind hn (hp _ (i + 1) l C (hR.up hi)) (fx_w (fx_refl μ) (by omega) _) (fun m hm => ?_) (fun m j l1 C1 t f1 hj hR1 => ?_)
      · match F, hF with
        | 0, hF => omega
        | F + 1, hF => exact hnf F m hm
      · exact (rd_loop hn g0 hst hnf hp q F m j l1 _ _ (by omega) (by omega) hR1).up f1 (by omega)
theorem rd_lg {c : Nat} {op : Int32} {f : pc_S → pc_S → pc_S} {kp : Nat → Nat → pc_C → pc_R pc_S} {k : hm_M → Option hm_M} {L : Nat → hm_M → Option hm_M} (hn : n ≤ 400) (c0 : c ≠ 0) (hst : ∀ F μ i l, RA μ T n ord i l → L (F + 1) μ = if tkc T n i = c then Option.bind (k (hm_wI μ 179 19 (Int32.ofNat (i + 1)))) (L F) else some μ) (hnf : ∀ F m, NF m → L (F + 1) m = some m) (hp : ∀ m i l C, RA m T n ord i l → RE T n ord (i + 1) m (kp i l C) (k m)) : ∀ q F μ i l C s, tmy T n - i ≤ q → tmy T n - i < F → RA μ T n ord i l → RE T n ord i μ (pc_lg (tkc T n) c op f kp q i l C s) (L F μ)
  | q, 0, μ, i, l, C, s, _, h, _ => absurd h (Nat.not_lt_zero _)
  | 0, F + 1, μ, i, l, C, s, hq, hF, hR => by
    have := hR.2.1.1
    rw [hst F μ i l hR, tkc_end (show tmy T n ≤ i by omega), if_neg (Ne.symm c0)]
    exact ⟨μ, rfl, fx_refl μ, Nat.le_refl _, hR⟩
  | q + 1, F + 1, μ, i, l, C, s, hq, hF, hR => by
    rw [hst F μ i l hR]
    unfold pc_lg
    by_cases y : tkc T n i = c
    · rw [if_pos y, if_pos y]
      have hi := tkc_0 (T := T) (n := n) (i := i) (by omega)
      refine RE.bind hn (hp _ (i + 1) l _ (hR.up hi)) (fx_w (fx_refl μ) (by omega) _) (fun m hm => ?_) (fun m j l1 C1 t f1 hj hR1 => ?_)
      · match F, hF with
        | 0, hF => omega
        | F + 1, hF => exact hnf F m hm
      · exact (rd_lg hn c0 hst hnf hp q F m j l1 _ _ (by omega) (by omega) hR1).up f1 (by omega)
    · rw [if_neg y, if_neg y]
      exact ⟨μ, rfl, fx_refl μ, Nat.le_refl _, hR⟩
theorem tl_step {k1 k2 k3 : Int32 → hm_M → Option hm_M} {v : Int32} {F i l : Nat} {μ : hm_M} (h : RA μ T n ord i l) : f_X10_readTerm_L5 k1 k2 k3 v (fun m => some m) (F + 1) μ = if pc_mul (tkc T n i) = 0 then some μ else Option.bind (k1 v (hm_wI μ 179 19 (Int32.ofNat (i + 1)))) (f_X10_readTerm_L5 k1 k2 k3 v (fun m => some m) F) := by
  rw [f_X10_readTerm_L5]
  unfold f_X10_sign pc_mul f_X10_readTerm_J41
  rw [Option.bind_some, show (100 : Int32) + 42 = Int32.ofNat 142 from rfl, h.takes (by omega)]
  by_cases y1 : tkc T n i = 142
  · rw [if_pos y1, if_pos y1, b2_some, if_neg (by decide), if_neg (by decide)]
  · rw [if_neg y1, if_neg y1, b2_some, if_pos rfl, Option.bind_some, show (100 : Int32) + 47 = Int32.ofNat 147 from rfl, h.takes (by omega)]
    by_cases y2 : tkc T n i = 147
    · rw [if_pos y2, if_pos y2, b2_some, if_neg (by decide), if_neg (by decide)]
    · rw [if_neg y2, if_neg y2, b2_some, if_pos rfl, Option.bind_some, show (100 : Int32) + 37 = Int32.ofNat 137 from rfl, h.takes (by omega)]
      by_cases y3 : tkc T n i = 137
      · rw [if_pos y3, if_pos y3, b2_some, if_neg (by decide), if_neg (by decide)]
      · rw [if_neg y3, if_neg y3, b2_some, if_pos rfl, if_pos rfl]
theorem sl_step {k1 k2 k3 : Int32 → hm_M → Option hm_M} {v : Int32} {F i l : Nat} {μ : hm_M} (h : RA μ T n ord i l) : f_X10_readSum_L5 k1 k2 k3 v (fun m => some m) (F + 1) μ = if pc_add (tkc T n i) = 0 then some μ else Option.bind (k3 v (hm_wI μ 179 19 (Int32.ofNat (i + 1)))) (f_X10_readSum_L5 k1 k2 k3 v (fun m => some m) F) := by
  rw [f_X10_readSum_L5]
  unfold f_X10_sign pc_add f_X10_readSum_J29
  rw [Option.bind_some, show (100 : Int32) + 43 = Int32.ofNat 143 from rfl, h.takes (by omega)]
  by_cases y1 : tkc T n i = 143
  · rw [if_pos y1, if_pos y1, b2_some, if_neg (by decide), if_neg (by decide)]
  · rw [if_neg y1, if_neg y1, b2_some, if_pos rfl, Option.bind_some, show (100 : Int32) + 45 = Int32.ofNat 145 from rfl, h.takes (by omega)]
    by_cases y2 : tkc T n i = 145
    · rw [if_pos y2, if_pos y2, b2_some, if_neg (by decide), if_neg (by decide)]
    · rw [if_neg y2, if_neg y2, b2_some, if_pos rfl, if_pos rfl]
theorem rd_sum : ∀ (N d M : Nat), 9 ≤ N + d → d ≤ 8 → 3 * N ≤ M → ∀ (μ : hm_M) (i l : Nat) (C : pc_C), RA μ T n ord i l → RE T n ord (i + 1) μ (pc_sum ord (tkc T n) (vlc T n) N d i l C) ((K_X10_readPart M).2.1 (Int32.ofNat d) μ)
  | 0, d, M, h1, h2, _, μ, i, l, C, h => by omega
  | N + 1, d, M, h1, h2, h3, μ, i, l, C, h => by
    have hn := h.1.2.1.1
    have hm := (tmy_p T n).2.2
    match M, h3 with
    | 0, h3 => omega
    | 1, h3 => omega
    | 2, h3 => omega
    | M + 3, h3 =>
      have hpart : ∀ m i l C, RA m T n ord i l → RE T n ord (i + 1) m (pc_part ord (tkc T n) (vlc T n) (pc_sum ord (tkc T n) (vlc T n) N) d i l C) ((K_X10_readPart (M + 1)).1 (Int32.ofNat d) m) := fun m i l C hR => rd_part hR h2 fun hd m i l C hR => rd_sum N (d + 1) M (by omega) (by omega) (by omega) m i l C hR
      have hterm : ∀ m i l C, RA m T n ord i l → RE T n ord (i + 1) m (pc_term ord (tkc T n) (vlc T n) (pc_sum ord (tkc T n) (vlc T n) N) d i l C) ((K_X10_readPart (M + 2)).2.2 (Int32.ofNat d) m) := fun m i l C hR => by
        show RE T n ord (i + 1) m _ (f_X10_readTerm (K_X10_readPart (M + 1)).1 (K_X10_readPart (M + 1)).2.1 (K_X10_readPart (M + 1)).2.2 (Int32.ofNat d) m)
        unfold pc_term f_X10_readTerm
        refine RE.bind hn (hpart m i l C hR) (fx_refl m) (fun m1 h1 => nf_tl h1 _ _ _ _ _ 999999) (fun m1 j l1 C1 s f1 hj hR1 => ?_)
        exact (rd_loop hn rfl (fun F μ i l h => tl_step h) (fun F m h => nf_tl h _ _ _ _ _ F) hpart 400 hm_fu m1 j l1 C1 s (by omega) (fu_lt (by omega)) hR1).up f1 hj
      show RE T n ord (i + 1) μ _ (f_X10_readSum (K_X10_readPart (M + 2)).1 (K_X10_readPart (M + 2)).2.1 (K_X10_readPart (M + 2)).2.2 (Int32.ofNat d) μ)
      unfold pc_sum f_X10_readSum
      refine RE.bind hn (hterm μ i l C h) (fx_refl μ) (fun m1 h1 => nf_sl h1 _ _ _ _ _ 999999) (fun m1 j l1 C1 s f1 hj hR1 => ?_)
      exact (rd_loop hn rfl (fun F μ i l h => sl_step h) (fun F m h => nf_sl h _ _ _ _ _ F) hterm 400 hm_fu m1 j l1 C1 s (by omega) (fu_lt (by omega)) hR1).up f1 hj
theorem rd_Sum {μ : hm_M} {i l d : Nat} {C : pc_C} (hd : d ≤ 8) (h : RA μ T n ord i l) : RE T n ord (i + 1) μ (pc_sum ord (tkc T n) (vlc T n) 10 d i l C) (F_X10_readSum (Int32.ofNat d) μ) := rd_sum 10 d 40 (by omega) hd (by omega) μ i l C h
theorem nf_Sum {μ : hm_M} (h : NF μ) (v : Int32) : F_X10_readSum v μ = some μ := nf_sum h 37 v
/-! Tests. -/
theorem RE_fin {i j l : Nat} {μ : hm_M} {C : pc_C} {s : pc_S} {o : Option hm_M} {b : Bool} (h : RE T n ord i μ (.ok (j, l, C, s)) o) : RE T n ord i μ (pc_fin b j l C s) o := by
  unfold pc_fin
  split <;> exact h
theorem rd_nots {k1 k2 k3 : Int32 → hm_M → Option hm_M} {v : Int32} {e : hm_M → Option hm_M} : ∀ q F μ i l b, tmy T n - i ≤ q → tmy T n - i + 1 < F → RA μ T n ord i l → ∃ m, f_X10_readPlain_L2 k1 k2 k3 v e F 1 μ = e m ∧ fx μ m ∧ i ≤ (pc_nots (tkc T n) q i b).1 ∧ RA m T n ord (pc_nots (tkc T n) q i b).1 l
  | q, 0, μ, i, l, b, _, h, _ => absurd h (Nat.not_lt_zero _)
  | q, 1, μ, i, l, b, _, h, _ => by omega
  | 0, F + 2, μ, i, l, b, hq, hF, hR => by
    have := hR.2.1.1
    refine ⟨μ, ?_, fx_refl μ, Nat.le_refl _, hR⟩
    rw [f_X10_readPlain_L2, if_neg (by decide), show (7 : Int32) = Int32.ofNat 7 from rfl, hR.takes (by omega), tkc_end (show tmy T n ≤ i by omega), if_neg (by decide), b2_some, f_X10_readPlain_L2, if_pos rfl]
  | q + 1, F + 2, μ, i, l, b, hq, hF, hR => by
    unfold pc_nots
    rw [f_X10_readPlain_L2, if_neg (by decide), show (7 : Int32) = Int32.ofNat 7 from rfl, hR.takes (by omega)]
    by_cases y : tkc T n i = 7
    · have hi := tkc_0 (T := T) (n := n) (i := i) (by omega)
      rw [if_pos y, if_pos y, b2_some]
      obtain ⟨m, r1, r2, r3, r4⟩ := rd_nots (k1 := k1) (k2 := k2) (k3 := k3) (v := v) (e := e) q (F + 1) _ (i + 1) l (!b) (by omega) (by omega) (hR.up hi)
      exact ⟨m, r1, fx_trans (fx_w (fx_refl μ) (by omega) _) r2, by omega, r4⟩
    · rw [if_neg y, if_neg y, b2_some]
      refine ⟨μ, ?_, fx_refl μ, Nat.le_refl _, hR⟩
      rw [f_X10_readPlain_L2, if_pos rfl]
theorem nf_plain {μ : hm_M} (h : NF μ) (k1 k2 k3 : Int32 → hm_M → Option hm_M) (v : Int32) : f_X10_readPlain k1 k2 k3 v μ = some μ := by
  unfold f_X10_readPlain
  show f_X10_readPlain_L2 k1 k2 k3 v _ (999998 + 1 + 1) 1 μ = _
  rw [f_X10_readPlain_L2, if_neg (by decide), nf_takes h, b2_some, f_X10_readPlain_L2, if_pos rfl, nf_fine h, Option.bind_some, if_pos rfl]
theorem rd_plain {μ : hm_M} {i l d : Nat} {C : pc_C} {kt : Nat → Nat → Nat → pc_C → pc_R pc_S} {k1 k2 k3 : Int32 → hm_M → Option hm_M} (h : RA μ T n ord i l) (hd : d ≤ 8) (hkt : d < 8 → ∀ m i l C, RA m T n ord i l → RE T n ord (i + 1) m (kt (d + 1) i l C) (k3 (Int32.ofNat (d + 1)) m)) : RE T n ord (i + 1) μ (pc_plain ord (tkc T n) (vlc T n) kt d i l C) (f_X10_readPlain k1 k2 k3 (Int32.ofNat d) μ) := by
  have hn := h.1.2.1.1
  have hm := (tmy_p T n).2.2
  unfold f_X10_readPlain pc_plain
  obtain ⟨m, r1, r2, r3, r4⟩ := rd_nots (k1 := k1) (k2 := k2) (k3 := k3) (v := Int32.ofNat d) (e := fun μz4 => Option.bind (f_X10_fine μz4) fun x5 => (if x5 = 0 then some μz4 else Option.bind (hm_ld μz4 188 401 (μz4.1 179 19)) fun x6 => Option.bind (f_X10_sign (40 : Int32)) fun x7 => (if x6 = x7 then (if (Int32.ofNat d) = (8 : Int32) then Option.bind (f_X10_faults μz4) fun μ29 => f_X10_readPlain_J53 k1 k2 k3 (Int32.ofNat d) μ29 else f_X10_readPlain_J53 k1 k2 k3 (Int32.ofNat d) μz4) else Option.bind (F_X10_readSum (Int32.ofNat d) μz4) fun μ9 => Option.bind (f_X10_sign (60 : Int32)) fun x10 => hm_b2 (f_X10_takes0 x10 μ9) fun x11 μ12 => (if x11 = 0 then Option.bind (f_X10_sign (62 : Int32)) fun x15 => hm_b2 (f_X10_takes0 x15 μ12) fun x16 μ17 => (if x16 = 0 then Option.bind (f_X10_sign (61 : Int32)) fun x18 => Option.bind (f_X10_must x18 μ17) fun μ20 => f_X10_readPlain_J128 k1 k2 k3 (Int32.ofNat d) μ20 else f_X10_readPlain_J128 k1 k2 k3 (Int32.ofNat d) μ17) else f_X10_readPlain_J128 k1 k2 k3 (Int32.ofNat d) μ12)))) 400 hm_fu μ i l false (by omega) (by have := fu_lt (n := 401) (by omega); omega) h
  rw [r1]
  generalize (pc_nots (tkc T n) 400 i false).2 = b
  generalize (pc_nots (tkc T n) 400 i false).1 = i1 at r3 r4 ⊢
  have t4 := tkc_lt r4.1.2.1.2 i1
  generalize hr : pc_pos ord (tkc T n) (vlc T n) kt d i1 l C b = r
  unfold pc_pos at hr
  unfold f_X10_sign
  rw [r4.fine, Option.bind_some, if_neg (by decide), r4.tk, Option.bind_some, Option.bind_some]
  by_cases c1 : tkc T n i1 = 140
  · rw [if_pos c1] at hr
    rw [if_pos (by rw [c1]; rfl)]
    have hi := tkc_0 (T := T) (n := n) (i := i1) (by omega)
    by_cases c2 : d < 8
    · rw [if_pos c2] at hr
      rw [if_neg (by rw [show (8 : Int32) = Int32.ofNat 8 from rfl, n_eq (by omega) (by omega)]; omega), ← hr]
      unfold f_X10_readPlain_J53 f_X10_sign
      rw [r4.fine, Option.bind_some, if_neg (by decide), r4.2.2.1, show Int32.ofNat i1 + 1 = Int32.ofNat (i1 + 1) from n_add i1 1, pI_some, Option.bind_some, show Int32.ofNat d + 1 = Int32.ofNat (d + 1) from n_add d 1]
      refine RE.bind hn (hkt c2 _ (i1 + 1) l C (r4.up hi)) (fx_w r2 (by omega) _) (fun m hm => ?_) (fun m j l1 C1 s f1 hj hR => ?_)
      · rw [Option.bind_some, nf_must hm, Option.bind_some]
      · rw [Option.bind_some, show (100 : Int32) + 41 = Int32.ofNat 141 from rfl]
        have q := (hR.must (c := 141) (by omega) (by omega) (C := C1) (s := s) f1).up (fx_refl μ) (show i + 1 ≤ j + 1 by omega)
        have q' : RE T n ord (i + 1) μ (if tkc T n j = 141 then pc_fin b (j + 1) l1 C1 s else .error j) (f_X10_must (Int32.ofNat 141) m) := by
          by_cases w : tkc T n j = 141
          · rw [if_pos w] at q ⊢
            exact RE_fin q
          · rw [if_neg w] at q ⊢
            exact q
        obtain ⟨m2, q1, q2, q3⟩ := q'
        exact ⟨m2, by rw [q1, Option.bind_some], q2, q3⟩
    · rw [if_neg c2] at hr
      rw [← hr, if_pos (by rw [show (8 : Int32) = Int32.ofNat 8 from rfl, n_eq (by omega) (by omega)]; omega), r4.faults, Option.bind_some]
      unfold f_X10_readPlain_J53
      rw [nf_fine r4.nf, Option.bind_some, if_pos rfl]
      exact RE_err r4 r2
  · rw [if_neg c1] at hr
    rw [if_neg (show ¬ Int32.ofNat (tkc T n i1) = 100 + 40 by rw [show (100 : Int32) + 40 = Int32.ofNat 140 from rfl, n_eq (by omega) (by omega)]; exact c1), ← hr]
    refine RE.bind hn (rd_Sum hd r4) r2 (fun m hm => ?_) (fun m j l1 C1 s f1 hj hR => ?_)
    · unfold f_X10_readPlain_J128
      rw [Option.bind_some, nf_takes hm, b2_some, if_pos rfl, Option.bind_some, nf_takes hm, b2_some, if_pos rfl, Option.bind_some, nf_must hm, Option.bind_some, nf_Sum hm, Option.bind_some]
    · have t5 := tkc_lt hR.1.2.1.2 j
      have two : ∀ c : Nat, tkc T n j = c → c ≠ 0 → ∀ op : Nat, RE T n ord (i + 1) μ (pc_b (pc_sum ord (tkc T n) (vlc T n) 10 d (j + 1) l1 C1) fun j2 l2 C2 t => pc_fin b j2 l2 (C2 ++ [(Int32.ofNat op, 0)]) (pc_s2 (Int32.ofNat op) s t)) (f_X10_readPlain_J128 k1 k2 k3 (Int32.ofNat d) (hm_wI m 179 19 (Int32.ofNat (j + 1)))) := by
        intro c hc c0 op
        unfold f_X10_readPlain_J128
        refine RE.bind hn (rd_Sum hd (hR.up (tkc_0 (by omega)))) (fx_w f1 (by omega) _) (fun m hm => rfl) (fun m j2 l2 C2 t f2 hj2 hR2 => RE_fin ⟨m, rfl, f2, by omega, hR2⟩)
      rw [Option.bind_some, show (100 : Int32) + 60 = Int32.ofNat 160 from rfl, hR.takes (by omega)]
      generalize hr2 : (if pc_cmp (tkc T n j) = 0 then .error j else pc_b (pc_sum ord (tkc T n) (vlc T n) 10 d (j + 1) l1 C1) fun j2 l2 C2 t => pc_fin b j2 l2 (C2 ++ [(Int32.ofNat (pc_cmp (tkc T n j)), 0)]) (pc_s2 (Int32.ofNat (pc_cmp (tkc T n j))) s t) : pc_R pc_S) = r2v
      by_cases y1 : tkc T n j = 160
      · rw [if_pos y1, b2_some, if_neg (by decide)]
        rw [if_neg (by rw [y1]; decide)] at hr2
        rw [← hr2]
        exact two _ y1 (by omega) _
      · rw [if_neg y1, b2_some, if_pos rfl, Option.bind_some, show (100 : Int32) + 62 = Int32.ofNat 162 from rfl, hR.takes (by omega)]
        by_cases y2 : tkc T n j = 162
        · rw [if_pos y2, b2_some, if_neg (by decide)]
          rw [if_neg (by rw [y2]; decide)] at hr2
          rw [← hr2]
          exact two _ y2 (by omega) _
        · rw [if_neg y2, b2_some, if_pos rfl, Option.bind_some, show (100 : Int32) + 61 = Int32.ofNat 161 from rfl]
          unfold f_X10_must
          rw [hR.takes (by omega)]
          by_cases y3 : tkc T n j = 161
          · rw [if_pos y3, b2_some, if_neg (by decide), Option.bind_some]
            rw [if_neg (by rw [y3]; decide)] at hr2
            rw [← hr2]
            exact two _ y3 (by omega) _
          · rw [if_neg y3, b2_some, if_pos rfl, hR.faults, Option.bind_some, Option.bind_some]
            rw [if_pos (by unfold pc_cmp; rw [if_neg y1, if_neg y2, if_neg y3])] at hr2
            rw [← hr2]
            unfold f_X10_readPlain_J128
            rw [nf_Sum hR.nf, Option.bind_some]
            exact RE_err hR f1
theorem nf_bl {μ : hm_M} (h : NF μ) (k1 k2 k3 : Int32 → hm_M → Option hm_M) (v : Int32) (e : hm_M → Option hm_M) (F : Nat) : f_X10_readBoth_L5 k1 k2 k3 v e (F + 1) μ = e μ := by
  rw [f_X10_readBoth_L5, nf_takes h, b2_some, if_pos rfl]
theorem nf_el {μ : hm_M} (h : NF μ) (k1 k2 k3 : Int32 → hm_M → Option hm_M) (v : Int32) (e : hm_M → Option hm_M) (F : Nat) : f_X10_readTest_L5 k1 k2 k3 v e (F + 1) μ = e μ := by
  rw [f_X10_readTest_L5, nf_takes h, b2_some, if_pos rfl]
theorem bl_step {k1 k2 k3 : Int32 → hm_M → Option hm_M} {v : Int32} {F i l : Nat} {μ : hm_M} (h : RA μ T n ord i l) : f_X10_readBoth_L5 k1 k2 k3 v (fun m => some m) (F + 1) μ = if tkc T n i = 6 then Option.bind (k2 v (hm_wI μ 179 19 (Int32.ofNat (i + 1)))) (f_X10_readBoth_L5 k1 k2 k3 v (fun m => some m) F) else some μ := by
  rw [f_X10_readBoth_L5, show (6 : Int32) = Int32.ofNat 6 from rfl, h.takes (by omega)]
  by_cases y : tkc T n i = 6
  · rw [if_pos y, if_pos y, b2_some, if_neg (by decide)]
  · rw [if_neg y, if_neg y, b2_some, if_pos rfl]
theorem el_step {k1 k2 k3 : Int32 → hm_M → Option hm_M} {v : Int32} {F i l : Nat} {μ : hm_M} (h : RA μ T n ord i l) : f_X10_readTest_L5 k1 k2 k3 v (fun m => some m) (F + 1) μ = if tkc T n i = 5 then Option.bind (k1 v (hm_wI μ 179 19 (Int32.ofNat (i + 1)))) (f_X10_readTest_L5 k1 k2 k3 v (fun m => some m) F) else some μ := by
  rw [f_X10_readTest_L5, show (5 : Int32) = Int32.ofNat 5 from rfl, h.takes (by omega)]
  by_cases y : tkc T n i = 5
  · rw [if_pos y, if_pos y, b2_some, if_neg (by decide)]
  · rw [if_neg y, if_neg y, b2_some, if_pos rfl]
theorem rd_test : ∀ (N d M : Nat), 9 ≤ N + d → d ≤ 8 → 3 * N ≤ M → ∀ (μ : hm_M) (i l : Nat) (C : pc_C), RA μ T n ord i l → RE T n ord (i + 1) μ (pc_test ord (tkc T n) (vlc T n) N d i l C) ((K_X10_readBoth M).2.2 (Int32.ofNat d) μ)
  | 0, d, M, h1, h2, _, μ, i, l, C, h => by omega
  | N + 1, d, M, h1, h2, h3, μ, i, l, C, h => by
    have hn := h.1.2.1.1
    have hm := (tmy_p T n).2.2
    match M, h3 with
    | 0, h3 => omega
    | 1, h3 => omega
    | 2, h3 => omega
    | M + 3, h3 =>
      have hplain : ∀ m i l C, RA m T n ord i l → RE T n ord (i + 1) m (pc_plain ord (tkc T n) (vlc T n) (pc_test ord (tkc T n) (vlc T n) N) d i l C) ((K_X10_readBoth (M + 1)).2.1 (Int32.ofNat d) m) := fun m i l C hR => rd_plain hR h2 fun hd m i l C hR => rd_test N (d + 1) M (by omega) (by omega) (by omega) m i l C hR
      have hboth : ∀ m i l C, RA m T n ord i l → RE T n ord (i + 1) m (pc_both ord (tkc T n) (vlc T n) (pc_test ord (tkc T n) (vlc T n) N) d i l C) ((K_X10_readBoth (M + 2)).1 (Int32.ofNat d) m) := fun m i l C hR => by
        show RE T n ord (i + 1) m _ (f_X10_readBoth (K_X10_readBoth (M + 1)).1 (K_X10_readBoth (M + 1)).2.1 (K_X10_readBoth (M + 1)).2.2 (Int32.ofNat d) m)
        unfold pc_both f_X10_readBoth
        refine RE.bind hn (hplain m i l C hR) (fx_refl m) (fun m1 h1 => nf_bl h1 _ _ _ _ _ 999999) (fun m1 j l1 C1 s f1 hj hR1 => ?_)
        exact (rd_lg hn (by decide) (fun F μ i l h => bl_step h) (fun F m h => nf_bl h _ _ _ _ _ F) hplain 400 hm_fu m1 j l1 C1 s (by omega) (fu_lt (by omega)) hR1).up f1 hj
      show RE T n ord (i + 1) μ _ (f_X10_readTest (K_X10_readBoth (M + 2)).1 (K_X10_readBoth (M + 2)).2.1 (K_X10_readBoth (M + 2)).2.2 (Int32.ofNat d) μ)
      unfold pc_test f_X10_readTest
      refine RE.bind hn (hboth μ i l C h) (fx_refl μ) (fun m1 h1 => nf_el h1 _ _ _ _ _ 999999) (fun m1 j l1 C1 s f1 hj hR1 => ?_)
      exact (rd_lg hn (by decide) (fun F μ i l h => el_step h) (fun F m h => nf_el h _ _ _ _ _ F) hboth 400 hm_fu m1 j l1 C1 s (by omega) (fu_lt (by omega)) hR1).up f1 hj
theorem rd_Test {μ : hm_M} {i l : Nat} {C : pc_C} (h : RA μ T n ord i l) : RE T n ord (i + 1) μ (pc_test ord (tkc T n) (vlc T n) 10 0 i l C) (F_X10_readTest 0 μ) := rd_test 10 0 40 (by omega) (by omega) (by omega) μ i l C h
theorem nf_Test {μ : hm_M} (h : NF μ) (v : Int32) : F_X10_readTest v μ = some μ := by
  show f_X10_readTest (K_X10_readBoth 39).1 (K_X10_readBoth 39).2.1 (K_X10_readBoth 39).2.2 v μ = some μ
  unfold f_X10_readTest
  rw [show (K_X10_readBoth 39).1 v μ = some μ from by
    show f_X10_readBoth (K_X10_readBoth 38).1 (K_X10_readBoth 38).2.1 (K_X10_readBoth 38).2.2 v μ = some μ
    unfold f_X10_readBoth
    rw [show (K_X10_readBoth 38).2.1 v μ = some μ from nf_plain h _ _ _ v, Option.bind_some]
    exact nf_bl h _ _ _ v _ 999999, Option.bind_some]
  exact nf_el h _ _ _ v _ 999999
end
