section
variable {T : Nat → Nat} {n : Nat} {ord : Bool}
theorem RE.bind {α β : Type} {i j0 : Nat} {μ m0 : hm_M} {r : pc_R α} {o : Option hm_M} {f : Nat → Nat → pc_C → α → pc_R β} {g : hm_M → Option hm_M} (hn : n ≤ 400) (h : RE T n ord i μ r o) (fm : fx m0 μ) (nf : ∀ m, NF m → g m = some m) (hg : ∀ m j l C s, fx m0 m → i ≤ j → RA m T n ord j l → RE T n ord j0 m0 (f j l C s) (g m)) : RE T n ord j0 m0 (pc_b r f) (Option.bind o g) := by
  obtain ⟨m, rfl, h2, h3⟩ := h
  rw [Option.bind_some]
  match r, h3 with
  | .error e, h3 => exact ⟨m, nf m (nf_of hn h3.2), fx_trans fm h2, h3⟩
  | .ok (j, l, C, s), h3 => exact hg m j l C s (fx_trans fm h2) h3.1 h3.2
theorem RE.up {α : Type} {i i0 : Nat} {μ m0 : hm_M} {r : pc_R α} {o : Option hm_M} (h : RE T n ord i μ r o) (f : fx m0 μ) (hi : i0 ≤ i) : RE T n ord i0 m0 r o := by
  obtain ⟨m, h1, h2, h3⟩ := h
  refine ⟨m, h1, fx_trans f h2, ?_⟩
  match r, h3 with
  | .error e, h3 => exact h3
  | .ok (j, l, C, s), h3 => exact ⟨Nat.le_trans hi h3.1, h3.2⟩
theorem rd_part {μ : hm_M} {i l d : Nat} {C : pc_C} {ks : Nat → Nat → Nat → pc_C → pc_R pc_S} {k1 k2 k3 : Int32 → hm_M → Option hm_M} (h : RA μ T n ord i l) (hd : d ≤ 8) (hks : d < 8 → ∀ m i l C, RA m T n ord i l → RE T n ord (i + 1) m (ks (d + 1) i l C) (k2 (Int32.ofNat (d + 1)) m)) : RE T n ord (i + 1) μ (pc_part ord (tkc T n) (vlc T n) ks d i l C) (f_X10_readPart k1 k2 k3 (Int32.ofNat d) μ) := by
  have hn := h.1.2.1.1
  have t4 := tkc_lt h.1.2.1.2 i
  have v4 := vlc_lt (T := T) (n := n) i
  have hl := h.2.1.2
  generalize hr : pc_part ord (tkc T n) (vlc T n) ks d i l C = r
  unfold pc_part at hr
  unfold f_X10_readPart f_X10_sign
  rw [h.fine, Option.bind_some, if_neg (by decide), h.tk, Option.bind_some, Option.bind_some]
  by_cases c1 : tkc T n i = 191
  · rw [if_pos c1] at hr
    rw [if_pos (by rw [c1]; rfl)]
    have hi := tkc_0 (T := T) (n := n) (i := i) (by omega)
    by_cases c2 : d < 8
    · rw [if_pos c2] at hr
      rw [if_neg (by rw [show (8 : Int32) = Int32.ofNat 8 from rfl, n_eq (by omega) (by omega)]; omega)]
      unfold f_X10_readPart_J37 f_X10_sign
      rw [h.fine, Option.bind_some, if_neg (by decide), h.2.2.1, show Int32.ofNat i + 1 = Int32.ofNat (i + 1) from n_add i 1, pI_some, Option.bind_some, show Int32.ofNat d + 1 = Int32.ofNat (d + 1) from n_add d 1]
      rw [← hr]
      refine RE.bind hn (hks c2 _ (i + 1) l C (h.up hi)) (fx_w (fx_refl μ) (by omega) _) (fun m hm => ?_) (fun m j l1 C1 s f1 hj hR => ?_)
      · rw [Option.bind_some, nf_must hm, Option.bind_some]
      · rw [Option.bind_some, show (100 : Int32) + 93 = Int32.ofNat 193 from rfl]
        obtain ⟨m2, q1, q2, q3⟩ := (hR.must (c := 193) (by omega) (by omega) (C := C1) (s := s) f1).up (fx_refl μ) (show i + 1 ≤ j + 1 by omega)
        exact ⟨m2, by rw [q1, Option.bind_some], q2, q3⟩
    · rw [if_neg c2] at hr
      rw [← hr, if_pos (by rw [show (8 : Int32) = Int32.ofNat 8 from rfl, n_eq (by omega) (by omega)]; omega), h.faults, Option.bind_some]
      unfold f_X10_readPart_J37
      rw [nf_fine h.nf, Option.bind_some, if_pos rfl]
      exact RE_err h (fx_refl μ)
  · rw [if_neg c1] at hr
    rw [if_neg (show ¬ Int32.ofNat (tkc T n i) = 100 + 91 by rw [show (100 : Int32) + 91 = Int32.ofNat 191 from rfl, n_eq (by omega) (by omega)]; exact c1)]
    -- a leaf at which nothing else follows
    have lf : ∀ (x : Int32 × Int32) (s : pc_S) (c : Nat), c = tkc T n i → c ≠ 0 → ¬ (ord = true ∧ (c = 20 ∨ c = 21)) → RE T n ord (i + 1) μ (if l < 50 then .ok (i + 1, l + 1, C ++ [x], s) else .error i) (f_X10_readPart_J111 k1 k2 k3 (Int32.ofNat d) (Int32.ofNat c) μ) := by
      intro x s c hc c0 hno
      have hi := tkc_0 (T := T) (n := n) (i := i) (by omega)
      unfold f_X10_readPart_J111
      rw [rd_leaf h]
      by_cases y : l < 50
      · rw [if_pos y, if_pos y, Option.bind_some]
        refine ⟨_, ?_, fx_w (fx_w (fx_refl μ) (by omega) _) (by omega) _, Nat.le_refl _, h.leaf hi y⟩
        rw [wI_ne (by omega), wI_ne (by omega), h.1.2.2.1]
        cases ord with
        | false => exact if_pos rfl
        | true => rw [if_neg (show ¬ zb true = 0 by decide), if_neg (by rw [show (20 : Int32) = Int32.ofNat 20 from rfl, n_eq (by omega) (by omega)]; exact fun z => hno ⟨rfl, Or.inl z⟩), if_neg (by rw [show (21 : Int32) = Int32.ofNat 21 from rfl, n_eq (by omega) (by omega)]; exact fun z => hno ⟨rfl, Or.inr z⟩)]
      · rw [if_neg y, if_neg y, Option.bind_some]
        refine ⟨hm_wI (hm_wI μ 179 21 (Int32.ofNat (tst T n i))) 179 20 (Int32.ofNat (l + 1)), ?_, fx_w (fx_w (fx_refl μ) (by omega) _) (by omega) _, h.2.1.1, by rw [wI_ne (by omega), wI_at]⟩
        rw [wI_ne (by omega), wI_ne (by omega), h.1.2.2.1]
        cases ord with
        | false => exact if_pos rfl
        | true => rw [if_neg (show ¬ zb true = 0 by decide), if_neg (by rw [show (20 : Int32) = Int32.ofNat 20 from rfl, n_eq (by omega) (by omega)]; exact fun z => hno ⟨rfl, Or.inl z⟩), if_neg (by rw [show (21 : Int32) = Int32.ofNat 21 from rfl, n_eq (by omega) (by omega)]; exact fun z => hno ⟨rfl, Or.inr z⟩)]
    by_cases c3 : tkc T n i = 50 ∧ vlc T n i ≤ 1000
    · rw [if_pos (show Int32.ofNat (tkc T n i) = 50 by rw [c3.1]; rfl), h.vl, Option.bind_some, if_pos (by rw [show (1000 : Int32) = Int32.ofNat 1000 from rfl, n_le (by omega) (by omega)]; exact c3.2)]
      rw [if_pos c3] at hr
      rw [← hr]
      exact lf _ _ _ rfl (by omega) (by omega)
    · have s95 : ∀ X : Option hm_M, X = (if Int32.ofNat (tkc T n i) = 50 then Option.bind (hm_ld μ 189 401 (μ.1 179 19)) fun x11 => if x11 ≤ 1000 then f_X10_readPart_J111 k1 k2 k3 (Int32.ofNat d) (Int32.ofNat (tkc T n i)) μ else f_X10_readPart_J95 k1 k2 k3 (Int32.ofNat d) (Int32.ofNat (tkc T n i)) μ else f_X10_readPart_J95 k1 k2 k3 (Int32.ofNat d) (Int32.ofNat (tkc T n i)) μ) → X = f_X10_readPart_J95 k1 k2 k3 (Int32.ofNat d) (Int32.ofNat (tkc T n i)) μ := by
        intro X hX
        rw [hX]
        by_cases y : tkc T n i = 50
        · rw [if_pos (show Int32.ofNat (tkc T n i) = 50 by rw [y]; rfl), h.vl, Option.bind_some, if_neg (by rw [show (1000 : Int32) = Int32.ofNat 1000 from rfl, n_le (by omega) (by omega)]; exact fun z => c3 ⟨y, z⟩)]
        · rw [if_neg (by rw [show (50 : Int32) = Int32.ofNat 50 from rfl, n_eq (by omega) (by omega)]; exact y)]
      rw [s95 _ rfl]
      rw [if_neg c3] at hr
      unfold f_X10_readPart_J95
      rw [h.1.2.2.2.1, h.1.2.2.2.2]
      by_cases c5 : (if ord = true then 15 else 8) ≤ tkc T n i ∧ tkc T n i ≤ (if ord = true then 21 else 15)
      · have nw : ¬ pc_word ord (tkc T n i) = 99 := by
          unfold pc_word
          cases ord with
          | true =>
            rw [if_pos rfl, if_pos rfl] at c5
            rw [if_pos rfl, if_pos c5]
            omega
          | false =>
            rw [if_neg (by decide), if_neg (by decide)] at c5
            rw [if_neg (by decide)]
            split
            · omega
            · split
              · omega
              · split <;> omega
        rw [if_neg (by rw [n_lt (by omega) (by split <;> omega)]; omega), if_neg (by rw [n_lt (by split <;> omega) (by omega)]; omega)]
        rw [if_neg nw] at hr
        by_cases c6 : ord = true ∧ 5 ≤ pc_word ord (tkc T n i)
        · obtain ⟨rfl, c7⟩ := c6
          rw [if_pos rfl, if_pos rfl] at c5
          have e7 : pc_word true (tkc T n i) = tkc T n i - 15 := by
            unfold pc_word
            rw [if_pos rfl, if_pos c5]
          rw [if_pos (show true = true ∧ 5 ≤ pc_word true (tkc T n i) from ⟨rfl, c7⟩)] at hr
          rw [e7] at c7
          have hi := tkc_0 (T := T) (n := n) (i := i) (by omega)
          unfold f_X10_readPart_J111
          rw [rd_leaf h]
          by_cases y : l < 50
          · rw [if_pos y, Option.bind_some]
            rw [if_pos y] at hr
            have hR := h.leaf hi y
            have e8 : (hm_wI (hm_wI μ 179 20 (Int32.ofNat (l + 1))) 179 19 (Int32.ofNat (i + 1))).1 179 10 = zb true := hR.1.2.2.1
            generalize hm2 : hm_wI (hm_wI μ 179 20 (Int32.ofNat (l + 1))) 179 19 (Int32.ofNat (i + 1)) = m2 at hR e8
            have f2 : fx μ m2 := by rw [← hm2]; exact fx_w (fx_w (fx_refl μ) (by omega) _) (by omega) _
            have j134 : ∃ m3, f_X10_readPart_J134 k1 k2 k3 (Int32.ofNat d) m2 = some m3 ∧ fx μ m3 ∧ ((tkc T n (i + 1) = 50 ∧ vlc T n (i + 1) ≤ 7 ∧ RA m3 T n true (i + 2) (l + 1)) ∨ (¬ (tkc T n (i + 1) = 50 ∧ vlc T n (i + 1) ≤ 7) ∧ m3.1 179 21 = Int32.ofNat (tst T n (i + 1)))) := by
              unfold f_X10_readPart_J134
              rw [show (0 : Int32) = Int32.ofNat 0 from rfl, show (7 : Int32) = Int32.ofNat 7 from rfl, rd_num hR (by omega) (by omega)]
              by_cases z : tkc T n (i + 1) = 50 ∧ vlc T n (i + 1) ≤ 7
              · rw [if_pos ⟨z.1, by omega, z.2⟩]
                exact ⟨_, rfl, fx_w f2 (by omega) _, Or.inl ⟨z.1, z.2, hR.up (tkc_0 (by omega))⟩⟩
              · rw [if_neg fun q => z ⟨q.1, q.2.2⟩]
                exact ⟨_, rfl, fx_w f2 (by omega) _, Or.inr ⟨z, wI_at _ _ _ _⟩⟩
            obtain ⟨m3, g1, g2, g3⟩ := j134
            have e9 : (if m2.1 179 10 = 0 then some m2 else if Int32.ofNat (tkc T n i) = 20 then f_X10_readPart_J134 k1 k2 k3 (Int32.ofNat d) m2 else if Int32.ofNat (tkc T n i) = 21 then f_X10_readPart_J134 k1 k2 k3 (Int32.ofNat d) m2 else some m2) = some m3 := by
              rw [e8, if_neg (show ¬ zb true = 0 by decide)]
              by_cases w : tkc T n i = 20
              · rw [if_pos (show Int32.ofNat (tkc T n i) = 20 by rw [w]; rfl)]
                exact g1
              · rw [if_neg (by rw [show (20 : Int32) = Int32.ofNat 20 from rfl, n_eq (by omega) (by omega)]; exact w), if_pos (show Int32.ofNat (tkc T n i) = 21 by rw [show tkc T n i = 21 by omega]; rfl)]
                exact g1
            rw [e9, ← hr]
            refine ⟨m3, rfl, g2, ?_⟩
            rcases g3 with ⟨g3, g4, g5⟩ | ⟨g3, g4⟩
            · rw [if_pos ⟨g3, g4⟩]
              exact ⟨by omega, g5⟩
            · rw [if_neg g3]
              exact ⟨hR.2.1.1, g4⟩
          · rw [if_neg y, Option.bind_some]
            rw [if_neg y] at hr
            rw [← hr]
            have nf : NF (hm_wI (hm_wI μ 179 21 (Int32.ofNat (tst T n i))) 179 20 (Int32.ofNat (l + 1))) := by
              obtain ⟨q, q1, q2⟩ := h.nf
              exact ⟨q, q1, by rw [wI_ne (by omega)]; exact q2⟩
            refine ⟨hm_wI (hm_wI μ 179 21 (Int32.ofNat (tst T n i))) 179 20 (Int32.ofNat (l + 1)), ?_, fx_w (fx_w (fx_refl μ) (by omega) _) (by omega) _, h.2.1.1, by rw [wI_ne (by omega), wI_at]⟩
            unfold f_X10_readPart_J134
            rw [nf_num nf, Option.bind_some]
            split
            · rfl
            · split
              · rfl
              · split <;> rfl
        · rw [if_neg c6] at hr
          rw [← hr]
          refine lf _ _ _ rfl ?_ ?_
          · cases ord <;> simp at c5 <;> omega
          · rintro ⟨rfl, q⟩
            apply c6
            refine ⟨rfl, ?_⟩
            unfold pc_word
            rw [if_pos rfl, if_pos (by omega)]
            omega
      · have nw : pc_word ord (tkc T n i) = 99 := by
          unfold pc_word
          cases ord with
          | true =>
            rw [if_pos rfl, if_pos rfl] at c5
            rw [if_pos rfl, if_neg c5]
          | false =>
            rw [if_neg (by decide), if_neg (by decide)] at c5
            rw [if_neg (by decide), if_neg (by omega), if_neg (by omega), if_neg (by omega)]
        have e1 : (if l < 50 then (if pc_word ord (tkc T n i) = 99 then .error i else if ord = true ∧ 5 ≤ pc_word ord (tkc T n i) then (if tkc T n (i + 1) = 50 ∧ vlc T n (i + 1) ≤ 7 then .ok (i + 2, l + 1, C ++ [(1, Int32.ofNat (pc_whose (pc_word ord (tkc T n i)) (vlc T n (i + 1))))], fun e => some (e (pc_whose (pc_word ord (tkc T n i)) (vlc T n (i + 1))))) else .error (i + 1)) else .ok (i + 1, l + 1, C ++ [(1, Int32.ofNat (pc_word ord (tkc T n i)))], fun e => some (e (pc_word ord (tkc T n i))))) else .error i : pc_R pc_S) = .error i := by
          rw [if_pos nw]
          split <;> rfl
        rw [e1] at hr
        rw [← hr]
        have j144 : f_X10_readPart_J144 k1 k2 k3 (Int32.ofNat d) μ = some (hm_wI μ 179 21 (Int32.ofNat (tst T n i))) := by
          unfold f_X10_readPart_J144
          rw [h.faults, Option.bind_some]
        have e2 : ∀ X : Option hm_M, (if Int32.ofNat (tkc T n i) < Int32.ofNat (if ord = true then 15 else 8) then f_X10_readPart_J144 k1 k2 k3 (Int32.ofNat d) μ else if Int32.ofNat (if ord = true then 21 else 15) < Int32.ofNat (tkc T n i) then f_X10_readPart_J144 k1 k2 k3 (Int32.ofNat d) μ else X) = some (hm_wI μ 179 21 (Int32.ofNat (tst T n i))) := by
          intro X
          by_cases w : tkc T n i < (if ord = true then 15 else 8)
          · rw [if_pos (by rw [n_lt (by omega) (by split <;> omega)]; exact w)]
            exact j144
          · rw [if_neg (by rw [n_lt (by omega) (by split <;> omega)]; exact w), if_pos (by rw [n_lt (by split <;> omega) (by omega)]; omega)]
            exact j144
        rw [e2]
        exact RE_err h (fx_refl μ)
end
