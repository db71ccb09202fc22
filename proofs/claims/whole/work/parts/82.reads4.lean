section
variable {T : Nat → Nat} {n : Nat} {ord : Bool}
theorem RE.map {α β : Type} {i : Nat} {μ : hm_M} {r : pc_R α} {o : Option hm_M} {g : Nat → Nat → pc_C → α → β} (h : RE T n ord i μ r o) : RE T n ord i μ (pc_b r fun j l C s => .ok (j, l, C, g j l C s)) o := by
  obtain ⟨m, h1, h2, h3⟩ := h
  refine ⟨m, h1, h2, ?_⟩
  match r, h3 with
  | .error e, h3 => exact h3
  | .ok (j, l, C, s), h3 => exact h3
def j29 (μ : hm_M) : Option hm_M := hm_b2 (f_X10_takes0 (4 : Int32) μ) fun x6 μ7 => (if x6 = 0 then some μ7 else Option.bind (F_X10_readTest (0 : Int32) μ7) fun μ9 => some μ9)
theorem nf_if {μ : hm_M} (h : NF μ) : j29 μ = some μ := by
  unfold j29
  rw [nf_takes h, b2_some, if_pos rfl]
theorem rd_if {μ m0 : hm_M} {j l : Nat} {C : pc_C} (h : RA μ T n ord j l) (f : fx m0 μ) : RE T n ord j m0 (pc_if ord (tkc T n) (vlc T n) j l C) (j29 μ) := by
  have hn := h.1.2.1.1
  unfold j29 pc_if
  rw [show (4 : Int32) = Int32.ofNat 4 from rfl, h.takes (by omega)]
  by_cases y : tkc T n j = 4
  · rw [if_pos y, if_pos y, b2_some, if_neg (by decide)]
    have hi := tkc_0 (T := T) (n := n) (i := j) (by omega)
    refine RE.bind hn (rd_Test (h.up hi)) (fx_w f (by omega) _) (fun m hm => rfl) (fun m j2 l2 C2 t f2 hj2 hR2 => ⟨m, rfl, f2, by omega, hR2⟩)
  · rw [if_neg y, if_neg y, b2_some, if_pos rfl]
    exact ⟨μ, rfl, f, Nat.le_refl _, h⟩
theorem rd_law1 {μ : hm_M} {i l : Nat} {C : pc_C} (h : RA μ T n false i l) : RE T n false (i + 1) μ (pc_law1 (tkc T n) (vlc T n) i l C) (f_X10_readClause μ) := by
  have hn := h.1.2.1.1
  generalize hr : pc_law1 (tkc T n) (vlc T n) i l C = r
  unfold pc_law1 pc_headL at hr
  unfold f_X10_readClause
  have sm : ∀ hd : Nat, tkc T n i ≠ 0 → RE T n false (i + 1) μ (pc_b (pc_sum false (tkc T n) (vlc T n) 10 0 (i + 1) l C) fun j l1 C1 s => pc_b (pc_if false (tkc T n) (vlc T n) j l1 C1) fun j2 l2 C2 t => .ok (j2, l2, C2, ((hd, C.length, C1.length, C1.length, C2.length, 1), s, pc_z, t))) (f_X10_readClause_J16 (hm_wI μ 179 19 (Int32.ofNat (i + 1)))) := by
    intro hd c0
    unfold f_X10_readClause_J16
    refine RE.bind hn (rd_Sum (d := 0) (by omega) (h.up (tkc_0 c0))) (fx_w (fx_refl μ) (by omega) _) (fun m hm => nf_if hm) (fun m j l1 C1 s f1 hj hR => ?_)
    exact (RE.map (g := fun j2 l2 C2 t => ((hd, C.length, C1.length, C1.length, C2.length, 1), s, pc_z, t)) (rd_if hR f1)).up (fx_refl μ) (by omega)
  rw [show (1 : Int32) = Int32.ofNat 1 from rfl, h.takes (by omega)]
  by_cases y1 : tkc T n i = 1
  · rw [if_pos y1, b2_some, if_neg (by decide)]
    rw [if_pos y1, if_neg (by decide), if_neg (by decide)] at hr
    rw [← hr]
    exact sm _ (by omega)
  · rw [if_neg y1, b2_some, if_pos rfl, show (2 : Int32) = Int32.ofNat 2 from rfl, h.takes (by omega)]
    rw [if_neg y1] at hr
    by_cases y2 : tkc T n i = 2
    · rw [if_pos y2, b2_some, if_neg (by decide)]
      rw [if_pos y2, if_neg (by decide), if_neg (by decide)] at hr
      rw [← hr]
      exact sm _ (by omega)
    · rw [if_neg y2, b2_some, if_pos rfl]
      rw [if_neg y2] at hr
      unfold f_X10_must
      rw [show (3 : Int32) = Int32.ofNat 3 from rfl, h.takes (by omega)]
      by_cases y3 : tkc T n i = 3
      · rw [if_pos y3, b2_some, if_neg (by decide), Option.bind_some]
        rw [if_pos y3, if_neg (by decide), if_pos rfl] at hr
        rw [← hr]
        exact (RE.map (g := fun j2 l2 C2 t => ((2, C.length, C.length, C.length, C2.length, 1), pc_z, pc_z, t)) (rd_if (h.up (tkc_0 (by omega))) (fx_w (fx_refl μ) (by omega) _))).up (fx_refl μ) (by omega)
      · rw [if_neg y3, b2_some, if_pos rfl, h.faults, Option.bind_some, Option.bind_some]
        rw [if_neg y3, if_pos rfl] at hr
        rw [← hr, show f_X10_readClause_J29 (hm_wI μ 179 21 (Int32.ofNat (tst T n i))) = some _ from nf_if h.nf]
        exact RE_err h (fx_refl μ)
theorem nf_60 {μ : hm_M} (h : NF μ) : f_X10_readOrder_J60 μ = some μ := by
  unfold f_X10_readOrder_J60
  rw [nf_takes h, b2_some, if_pos rfl]
  exact nf_if h
theorem rd_tail {μ m0 : hm_M} {j l hd a e1 : Nat} {C : pc_C} {s1 s2 : pc_S} (h : RA μ T n true j l) (f : fx m0 μ) : RE T n true j m0 (pc_tail (tkc T n) (vlc T n) hd a e1 s1 s2 j l C) (f_X10_readOrder_J60 μ) := by
  unfold f_X10_readOrder_J60 pc_tail pc_times
  rw [show (29 : Int32) = Int32.ofNat 29 from rfl, h.takes (by omega)]
  by_cases y : tkc T n j = 29
  · have hR := h.up (tkc_0 (by omega))
    rw [if_pos y, if_pos y, b2_some, if_neg (show ¬ (1 : Int32) = 0 by decide), show (1 : Int32) = Int32.ofNat 1 from rfl, show (20 : Int32) = Int32.ofNat 20 from rfl, rd_num hR (by omega) (by omega)]
    by_cases z : tkc T n (j + 1) = 50 ∧ 1 ≤ vlc T n (j + 1) ∧ vlc T n (j + 1) ≤ 20
    · rw [if_pos z, if_pos z, Option.bind_some]
      exact (RE.map (g := fun j2 l2 C2 t => ((hd, a, e1, C.length, C2.length, vlc T n (j + 1)), s1, s2, t)) (rd_if (hR.up (tkc_0 (by omega))) (fx_w (fx_w f (by omega) _) (by omega) _))).up (fx_refl m0) (by omega)
    · rw [if_neg z, if_neg z, Option.bind_some]
      rw [show f_X10_readOrder_J76 (hm_wI (hm_wI μ 179 19 (Int32.ofNat (j + 1))) 179 21 (Int32.ofNat (tst T n (j + 1)))) = some _ from nf_if hR.nf]
      exact RE_err hR (fx_w f (by omega) _)
  · rw [if_neg y, if_neg y, b2_some, if_pos rfl]
    exact RE.map (g := fun j2 l2 C2 t => ((hd, a, e1, C.length, C2.length, 1), s1, s2, t)) (rd_if h f)
theorem rd_ord1 {μ : hm_M} {i l : Nat} {C : pc_C} (h : RA μ T n true i l) : RE T n true (i + 1) μ (pc_ord1 (tkc T n) (vlc T n) i l C) (f_X10_readOrder μ) := by
  have hn := h.1.2.1.1
  generalize hr : pc_ord1 (tkc T n) (vlc T n) i l C = r
  unfold pc_ord1 pc_headO at hr
  unfold f_X10_readOrder
  have sm : ∀ hd c : Nat, c = 23 + 2 * hd → c < 100 → tkc T n i ≠ 0 → RE T n true (i + 1) μ (pc_b (pc_sum true (tkc T n) (vlc T n) 10 0 (i + 1) l C) fun j l1 C1 s1 => if tkc T n j = 23 + 2 * hd then pc_b (pc_sum true (tkc T n) (vlc T n) 10 0 (j + 1) l1 C1) fun j2 l2 C2 s2 => pc_tail (tkc T n) (vlc T n) hd C.length C1.length s1 s2 j2 l2 C2 else .error j) (Option.bind (f_X10_readTwo (Int32.ofNat c) (hm_wI μ 179 19 (Int32.ofNat (i + 1)))) fun m => f_X10_readOrder_J60 m) := by
    intro hd c hc hc9 c0
    unfold f_X10_readTwo
    rw [Option.bind_assoc]
    refine RE.bind hn (rd_Sum (d := 0) (by omega) (h.up (tkc_0 c0))) (fx_w (fx_refl μ) (by omega) _) (fun m hm => ?_) (fun m j l1 C1 s1 f1 hj hR => ?_)
    · rw [nf_must hm, Option.bind_some, nf_Sum hm, Option.bind_some, Option.bind_some, nf_60 hm]
    · unfold f_X10_must
      rw [hR.takes (by omega), ← hc]
      by_cases y : tkc T n j = c
      · rw [if_pos y, if_pos y, b2_some, if_neg (by decide), Option.bind_some, Option.bind_assoc]
        refine RE.bind hn (rd_Sum (d := 0) (by omega) (hR.up (tkc_0 (by omega)))) (fx_w f1 (by omega) _) (fun m hm => ?_) (fun m j2 l2 C2 s2 f2 hj2 hR2 => ?_)
        · rw [Option.bind_some, nf_60 hm]
        · rw [Option.bind_some]
          exact (rd_tail hR2 f2).up (fx_refl μ) (by omega)
      · rw [if_neg y, if_neg y, b2_some, if_pos rfl, hR.faults, Option.bind_some, Option.bind_some, nf_Sum hR.nf, Option.bind_some, Option.bind_some, nf_60 hR.nf]
        exact RE_err hR f1
  rw [show (22 : Int32) = Int32.ofNat 22 from rfl, h.takes (by omega)]
  by_cases y1 : tkc T n i = 22
  · rw [if_pos y1, b2_some, if_neg (by decide)]
    rw [if_pos y1, if_neg (by decide), if_neg (by decide)] at hr
    rw [← hr]
    exact sm 0 23 rfl (by omega) (by omega)
  · rw [if_neg y1, b2_some, if_pos rfl, show (24 : Int32) = Int32.ofNat 24 from rfl, h.takes (by omega)]
    rw [if_neg y1] at hr
    by_cases y2 : tkc T n i = 24
    · rw [if_pos y2, b2_some, if_neg (by decide)]
      rw [if_pos y2, if_neg (by decide), if_neg (by decide)] at hr
      rw [← hr]
      exact sm 1 25 rfl (by omega) (by omega)
    · rw [if_neg y2, b2_some, if_pos rfl, show (26 : Int32) = Int32.ofNat 26 from rfl, h.takes (by omega)]
      rw [if_neg y2] at hr
      by_cases y3 : tkc T n i = 26
      · rw [if_pos y3, b2_some, if_neg (by decide)]
        rw [if_pos y3, if_neg (by decide), if_neg (by decide)] at hr
        rw [← hr]
        exact sm 2 27 rfl (by omega) (by omega)
      · rw [if_neg y3, b2_some, if_pos rfl]
        rw [if_neg y3] at hr
        unfold f_X10_must
        rw [show (28 : Int32) = Int32.ofNat 28 from rfl, h.takes (by omega)]
        by_cases y4 : tkc T n i = 28
        · rw [if_pos y4, b2_some, if_neg (by decide), Option.bind_some]
          rw [if_pos y4, if_neg (by decide), if_pos rfl] at hr
          rw [← hr]
          exact (rd_tail (h.up (tkc_0 (by omega))) (fx_w (fx_refl μ) (by omega) _)).up (fx_refl μ) (by omega)
        · rw [if_neg y4, b2_some, if_pos rfl, h.faults, Option.bind_some, Option.bind_some, nf_60 h.nf]
          rw [if_neg y4, if_pos rfl] at hr
          rw [← hr]
          exact RE_err h (fx_refl μ)
theorem rd_one {μ : hm_M} {i l : Nat} {C : pc_C} (h : RA μ T n ord i l) : RE T n ord (i + 1) μ (pc_one ord (tkc T n) (vlc T n) i l C) (f_X10_readOne μ) := by
  unfold f_X10_readOne pc_one
  rw [h.1.2.2.1]
  cases ord with
  | false =>
    rw [if_pos (show zb false = 0 from rfl), if_neg (by decide)]
    obtain ⟨m, q1, q2, q3⟩ := rd_law1 (C := C) h
    exact ⟨m, by rw [q1, Option.bind_some], q2, q3⟩
  | true =>
    rw [if_neg (show ¬ zb true = 0 by decide), if_pos rfl]
    obtain ⟨m, q1, q2, q3⟩ := rd_ord1 (C := C) h
    exact ⟨m, by rw [q1, Option.bind_some], q2, q3⟩
/-- a whole text -/
def TE (T : Nat → Nat) (n : Nat) (μ : hm_M) (r : Except Nat (pc_C × List pc_K)) (e95 : hm_M → Option (Int32 × hm_M)) (o : Option (Int32 × hm_M)) : Prop := ∃ m, o = e95 m ∧ fx μ m ∧ match r with
  | .error e => e ≤ tmy T n ∧ m.1 179 21 = Int32.ofNat (tst T n e)
  | .ok _ => m.1 179 21 = -1
def e73 (μz18 : hm_M) : Option (Int32 × hm_M) := Option.bind (f_X10_fine μz18) fun x19 => (if x19 = 0 then f_X10_reads_J95 μz18 else (if (μz18.1 179 18) ≤ (μz18.1 179 19) then f_X10_reads_J95 μz18 else Option.bind (f_X10_faults μz18) fun μ24 => f_X10_reads_J95 μ24))
theorem nf_73 {μ : hm_M} (h : NF μ) : e73 μ = f_X10_reads_J95 μ := by
  unfold e73
  rw [nf_fine h, Option.bind_some, if_pos rfl]
theorem nf_34 {μ : hm_M} (h : NF μ) (F : Nat) (y : Int32) : f_X10_reads_L34 e73 (F + 1) y μ = f_X10_reads_J95 μ := by
  rw [f_X10_reads_L34]
  unfold f_X10_sign
  rw [Option.bind_some, nf_takes h, b2_some, if_pos rfl, nf_73 h]
/-- after a clause -/
theorem rd_more {N : Nat} (hN : N = tmy T n) (h18 : ∀ m μ : hm_M, fx μ m → μ.1 179 18 = Int32.ofNat N → m.1 179 18 = Int32.ofNat N) : ∀ (q F : Nat) (μ : hm_M) (j l : Nat) (C : pc_C) (A : List pc_K), q ≤ 11 → q + 2 < F → μ.1 179 18 = Int32.ofNat N → RA μ T n ord j l → TE T n μ (if tkc T n j = 159 then pc_text ord (tkc T n) (vlc T n) N q (j + 1) l C A else if j < N then .error j else .ok (C, A)) f_X10_reads_J95 (f_X10_reads_L34 e73 F (Int32.ofNat (12 - q)) μ)
  | q, 0, μ, j, l, C, A, _, h, _, _ => absurd h (Nat.not_lt_zero _)
  | q, F + 1, μ, j, l, C, A, hq, hF, he, hR => by
    have hn := hR.1.2.1.1
    have hm := (tmy_p T n).2.2
    have hj := hR.2.1.1
    rw [f_X10_reads_L34]
    unfold f_X10_sign
    rw [Option.bind_some, show (100 : Int32) + 59 = Int32.ofNat 159 from rfl, hR.takes (by omega)]
    by_cases y : tkc T n j = 159
    · rw [if_pos y, if_pos y, b2_some, if_neg (by decide)]
      have hR1 := hR.up (tkc_0 (by omega))
      have f1 : fx μ (hm_wI μ 179 19 (Int32.ofNat (j + 1))) := fx_w (fx_refl μ) (by omega) _
      match q, hq, hF with
      | 0, hq, hF =>
        rw [if_pos (by rfl), hR1.faults, Option.bind_some]
        unfold f_X10_reads_J56 f_X10_reads_J67
        rw [nf_fine hR1.nf, Option.bind_some, if_pos rfl]
        match F, hF with
        | 0, hF => omega
        | F + 1, hF =>
          rw [nf_34 hR1.nf]
          exact ⟨_, rfl, fx_w f1 (by omega) _, hR1.2.1.1, wI_at _ _ _ _⟩
      | q + 1, hq, hF =>
        rw [if_neg (by rw [show (12 : Int32) = Int32.ofNat 12 from rfl, n_eq (by omega) (by omega)]; omega)]
        unfold f_X10_reads_J56 f_X10_reads_J67
        rw [hR1.fine, Option.bind_some, if_neg (by decide), show Int32.ofNat (12 - (q + 1)) + 1 = Int32.ofNat (12 - (q + 1) + 1) from n_add (12 - (q + 1)) 1, show 12 - (q + 1) + 1 = 12 - q by omega]
        obtain ⟨m, r1, r2, r3⟩ := rd_one (C := C) hR1
        rw [r1, Option.bind_some]
        unfold pc_text
        generalize pc_one ord (tkc T n) (vlc T n) (j + 1) l C = r at r3
        match r, r3 with
        | .error e, r3 =>
          match F, hF with
          | 0, hF => omega
          | F + 1, hF =>
            rw [nf_34 (nf_of hn r3.2)]
            exact ⟨m, rfl, fx_trans f1 r2, r3⟩
        | .ok (j2, l2, C2, k), r3 =>
          obtain ⟨m2, s1, s2, s3⟩ := rd_more hN h18 q F m j2 l2 C2 (A ++ [k]) (by omega) (by omega) (h18 _ _ (fx_trans f1 r2) he) r3.2
          exact ⟨m2, s1, fx_trans (fx_trans f1 r2) s2, s3⟩
    · rw [if_neg y, if_neg y, b2_some, if_pos rfl]
      unfold e73
      rw [hR.fine, Option.bind_some, if_neg (show ¬ (1 : Int32) = 0 by decide), he, hR.2.2.1]
      by_cases z : j < N
      · rw [if_pos z, if_neg (by rw [n_le (by omega) (by omega)]; omega), hR.faults, Option.bind_some]
        exact ⟨_, rfl, fx_w (fx_refl μ) (by omega) _, hj, wI_at _ _ _ _⟩
      · rw [if_neg z, if_pos (by rw [n_le (by omega) (by omega)]; omega)]
        exact ⟨μ, rfl, fx_refl μ, hR.2.2.2.2⟩
end
