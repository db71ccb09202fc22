section
/-! The best ring on both sides. -/
def fLc (μ m : hm_M) : Prop := m.2 = μ.2 ∧ ∀ a j, a ≠ 191 → ¬ (a = 179 ∧ 22 ≤ j ∧ j ≤ 25) → a ≠ 196 → m.1 a j = μ.1 a j
theorem fLc_refl (μ : hm_M) : fLc μ μ := ⟨rfl, fun _ _ _ _ _ => rfl⟩
theorem fLc_trans {μ m m1 : hm_M} (h : fLc μ m) (g : fLc m m1) : fLc μ m1 := ⟨g.1.trans h.1, fun a j z1 z2 z3 => (g.2 a j z1 z2 z3).trans (h.2 a j z1 z2 z3)⟩
theorem fq_fLc {μ m : hm_M} (h : fq μ m) : fLc μ m := ⟨h.1, fun a j z1 z2 _ => h.2 a j z1 z2⟩
theorem fLc_w {μ m : hm_M} (h : fLc μ m) (j : Nat) (x : Int32) : fLc μ (hm_wI m 196 j x) := ⟨h.1, fun a k z1 z2 z3 => by rw [wI_ne (by omega)]; exact h.2 a k z1 z2 z3⟩
theorem fLc_181 {μ m : hm_M} (h : fLc μ m) : m.1 181 = μ.1 181 := funext fun j => h.2 _ _ (by omega) (by omega) (by omega)
theorem fLc_fs {μ m : hm_M} (h : fLc μ m) : fs μ m := ⟨congrArg (fun z => z.2) h.1, fun a j z => h.2 a j (by unfold scr at z; omega) (by unfold scr at z; omega) (by unfold scr at z; omega)⟩
variable {μ : hm_M} {L : List pc_K} {n : Nat}
theorem v_one {m : hm_M} {a b : Nat} (gl : Bool) (ha : a < 8) (hb : b < 8) (hR : bR (m.1 181)) (hL : FL (m.1 181) L) : ∃ m1, fq m m1 ∧ ∀ (k : Int32 → hm_M → Option hm_M), (if zb gl = 0 then hm_b2 (f_X10_canHold (Int32.ofNat a) (Int32.ofNat b) m) fun x4 μ5 => (if x4 = 0 then k (1000000 : Int32) μ5 else hm_b2 (f_X10_lostOf (Int32.ofNat a) (Int32.ofNat b) μ5) fun x7 μ8 => k x7 μ8) else hm_b2 (f_X10_gloveOf (Int32.ofNat a) (Int32.ofNat b) m) fun x9 μ10 => k x9 μ10) = k (Int32.ofNat (dC (if gl = true then 1 else 0) L (m.1 181) a b)) m1 := by
  cases gl with
  | false =>
    obtain ⟨m1, f1, e1⟩ := j10_can (L := L) ha hb hR hL
    cases hcn : s_can L (m.1 181) a b with
    | false =>
      refine ⟨m1, f1, fun k => ?_⟩
      have e : dC (if false = true then 1 else 0) L (m.1 181) a b = 1000000 := by
        unfold dC
        rw [if_neg (by decide), hcn]
        rfl
      rw [if_pos (show zb false = 0 from rfl), e1, b2_some, hcn, if_pos (show zb false = 0 from rfl), e]
      rfl
    | true =>
      obtain ⟨m2, f2, e2⟩ := j10_lost (μ := m1) (L := L) ha hb (by rw [fq_181 f1]; exact hR) (by rw [fq_181 f1]; exact hL)
      refine ⟨m2, fq_trans f1 f2, fun k => ?_⟩
      have e : dC (if false = true then 1 else 0) L (m.1 181) a b = s_lost L (m.1 181) a b := by
        unfold dC
        rw [if_neg (by decide), hcn]
        rfl
      rw [if_pos (show zb false = 0 from rfl), e1, b2_some, hcn, if_neg (show ¬ zb true = 0 by decide), e2, b2_some, e, fq_181 f1]
  | true =>
    have h1 : ∀ k : Int32 → hm_M → Option hm_M, (if zb true = 0 then hm_b2 (f_X10_canHold (Int32.ofNat a) (Int32.ofNat b) m) fun x4 μ5 => (if x4 = 0 then k (1000000 : Int32) μ5 else hm_b2 (f_X10_lostOf (Int32.ofNat a) (Int32.ofNat b) μ5) fun x7 μ8 => k x7 μ8) else hm_b2 (f_X10_gloveOf (Int32.ofNat a) (Int32.ofNat b) m) fun x9 μ10 => k x9 μ10) = hm_b2 (f_X10_gloveOf (Int32.ofNat a) (Int32.ofNat b) m) fun x9 μ10 => k x9 μ10 := fun k => if_neg (by decide)
    have h2 : dC (if true = true then 1 else 0) L (m.1 181) a b = if s_near (m.1 181) a b = true then (s_bar L (m.1 181) a b).toNat else 1000000 := by
      unfold dC
      rw [if_pos rfl, if_pos rfl]
    cases hN : s_near (m.1 181) a b with
    | false =>
      refine ⟨m, fq_refl m, fun k => ?_⟩
      rw [h1, h2, hN, if_neg (by decide)]
      unfold f_X10_gloveOf
      rw [j10_near ha hb hR, Option.bind_some, hN, if_pos (show zb false = 0 from rfl), b2_some]
      rfl
    | true =>
      obtain ⟨m1, f1, e1⟩ := j10_bar (L := L) ha hb hR hL
      refine ⟨m1, f1, fun k => ?_⟩
      rw [h1, h2, hN, if_pos rfl]
      unfold f_X10_gloveOf
      rw [j10_near ha hb hR, Option.bind_some, hN, if_neg (show ¬ zb true = 0 by decide), e1, b2_some]
      cases s_bar L (m.1 181) a b <;> rfl
def CRd (m : hm_M) (n : Nat) (c : Nat → Nat → Nat) : Prop := ∀ a b, a < n → b < n → m.1 196 (8 * a + b) = Int32.ofNat (if a = b then 1000000 else c a b)
theorem CRd.cr {m : hm_M} {n : Nat} {c : Nat → Nat → Nat} (h : CRd m n c) : CR m n c := fun a b ha hb hab => by rw [h a b ha hb, if_neg hab]
theorem v_costs (gl : Bool) (hn : n ≤ 8) (h0 : μ.1 181 54 = Int32.ofNat n) (hR : bR (μ.1 181)) (hL : FL (μ.1 181) L) : ∃ m, f_X10_laysCosts (zb gl) μ = some m ∧ CRd m n (dC (if gl = true then 1 else 0) L (μ.1 181)) ∧ fLc μ m := by
  unfold f_X10_laysCosts
  generalize hc : dC (if gl = true then 1 else 0) L (μ.1 181) = c
  have inner : ∀ A, A < n → ∀ m, fLc μ m → (∀ a b, a < n → b < n → a < A → m.1 196 (8 * a + b) = Int32.ofNat (if a = b then 1000000 else c a b)) → ∃ m1, (fLc μ m1 ∧ ∀ a b, a < n → b < n → a < A + 1 → m1.1 196 (8 * a + b) = Int32.ofNat (if a = b then 1000000 else c a b)) ∧ ∀ c2 e86 e80, f_X10_laysCosts_L12 (zb gl) (Int32.ofNat A) c2 e86 e80 hm_fu (Int32.ofNat 0) m = e80 m1 := by
    intro A hA m f0 g0
    have lp : ∃ (y' : Int32) (m1 : hm_M), (y' = Int32.ofNat n ∧ fLc μ m1 ∧ ∀ a b, a < n → b < n → (a < A ∨ (a = A ∧ b < n)) → m1.1 196 (8 * a + b) = Int32.ofNat (if a = b then 1000000 else c a b)) ∧ ∀ κ : (Int32 → hm_M → Option hm_M) × (hm_M → Option hm_M) × (hm_M → Option hm_M), f_X10_laysCosts_L12 (zb gl) (Int32.ofNat A) κ.1 κ.2.1 κ.2.2 hm_fu (Int32.ofNat 0) m = κ.2.2 m1 := by
      refine lu2 (K := (Int32 → hm_M → Option hm_M) × (hm_M → Option hm_M) × (hm_M → Option hm_M)) (L := fun κ => f_X10_laysCosts_L12 (zb gl) (Int32.ofNat A) κ.1 κ.2.1 κ.2.2) (fun k y m1 => y = Int32.ofNat k ∧ fLc μ m1 ∧ ∀ a b, a < n → b < n → (a < A ∨ (a = A ∧ b < k)) → m1.1 196 (8 * a + b) = Int32.ofNat (if a = b then 1000000 else c a b)) (fun κ _ m1 => κ.2.2 m1) n (fun k y m1 hk hI => ?_) (fun y m1 hI κ F => ?_) (fuel := hm_fu) (fu_lt (by omega)) (a := Int32.ofNat 0) (b := m) ⟨rfl, f0, fun a b h1 h2 h4 => g0 a b h1 h2 (by omega)⟩
      · obtain ⟨rfl, f, cp⟩ := hI
        have n54 : m1.1 181 54 = Int32.ofNat n := by rw [f.2 _ _ (by omega) (by omega) (by omega)]; exact h0
        have st : ∀ (κ : (Int32 → hm_M → Option hm_M) × (hm_M → Option hm_M) × (hm_M → Option hm_M)) F, f_X10_laysCosts_L12 (zb gl) (Int32.ofNat A) κ.1 κ.2.1 κ.2.2 (F + 1) (Int32.ofNat k) m1 = if A = k then Option.bind (hm_sd m1 196 64 (Int32.ofNat (8 * A + k)) 1000000) fun μ6 => f_X10_laysCosts_L12 (zb gl) (Int32.ofNat A) κ.1 κ.2.1 κ.2.2 F (Int32.ofNat (k + 1)) μ6 else (if zb gl = 0 then hm_b2 (f_X10_canHold (Int32.ofNat A) (Int32.ofNat k) m1) fun x4 μ5 => (if x4 = 0 then Option.bind (hm_sd μ5 196 64 (Int32.ofNat (8 * A + k)) (1000000 : Int32)) fun μ6 => f_X10_laysCosts_L12 (zb gl) (Int32.ofNat A) κ.1 κ.2.1 κ.2.2 F (Int32.ofNat (k + 1)) μ6 else hm_b2 (f_X10_lostOf (Int32.ofNat A) (Int32.ofNat k) μ5) fun x7 μ8 => Option.bind (hm_sd μ8 196 64 (Int32.ofNat (8 * A + k)) x7) fun μ6 => f_X10_laysCosts_L12 (zb gl) (Int32.ofNat A) κ.1 κ.2.1 κ.2.2 F (Int32.ofNat (k + 1)) μ6) else hm_b2 (f_X10_gloveOf (Int32.ofNat A) (Int32.ofNat k) m1) fun x9 μ10 => Option.bind (hm_sd μ10 196 64 (Int32.ofNat (8 * A + k)) x9) fun μ6 => f_X10_laysCosts_L12 (zb gl) (Int32.ofNat A) κ.1 κ.2.1 κ.2.2 F (Int32.ofNat (k + 1)) μ6) := fun κ F => by
          rw [f_X10_laysCosts_L12, v_mny, n54, Option.bind_some, if_neg (by rw [n_le (by omega) (by omega)]; omega)]
          unfold f_X10_laysCosts_J73
          rw [show (8 : Int32) = Int32.ofNat 8 from rfl, n_mul, n_add, show Int32.ofNat k + 1 = Int32.ofNat (k + 1) from n_add k 1]
          by_cases y : A = k
          · rw [if_pos y, if_pos (by rw [y])]
          · rw [if_neg y, if_neg (by rw [n_eq (by omega) (by omega)]; exact y)]
        by_cases y : A = k
        · refine ⟨_, hm_wI m1 196 (8 * A + k) 1000000, ⟨rfl, fLc_w f _ _, fun a b h1 h2 h4 => ?_⟩, fun κ F => ?_⟩
          · by_cases e : a = A ∧ b = k
            · rw [e.1, e.2, wI_at, if_pos y]
              rfl
            · rw [wI_ne (by omega)]
              exact cp a b h1 h2 (by omega)
          · show f_X10_laysCosts_L12 _ _ _ _ _ _ _ _ = _
            rw [st, if_pos y, sd_n (by omega) (by decide), Option.bind_some]
        · obtain ⟨m2, q1, q2⟩ := v_one (m := m1) (L := L) gl (show A < 8 by omega) (show k < 8 by omega) (by rw [fLc_181 f]; exact hR) (by rw [fLc_181 f]; exact hL)
          refine ⟨_, hm_wI m2 196 (8 * A + k) (Int32.ofNat (c A k)), ⟨rfl, fLc_w (fLc_trans f (fq_fLc q1)) _ _, fun a b h1 h2 h4 => ?_⟩, fun κ F => ?_⟩
          · by_cases e : a = A ∧ b = k
            · rw [e.1, e.2, wI_at, if_neg y]
            · rw [wI_ne (by omega), q1.2 _ _ (by omega) (by omega)]
              exact cp a b h1 h2 (by omega)
          · show f_X10_laysCosts_L12 _ _ _ _ _ _ _ _ = _
            rw [st, if_neg y, q2 fun x μ => Option.bind (hm_sd μ 196 64 (Int32.ofNat (8 * A + k)) x) fun μ6 => f_X10_laysCosts_L12 (zb gl) (Int32.ofNat A) κ.1 κ.2.1 κ.2.2 F (Int32.ofNat (k + 1)) μ6, sd_n (by omega) (by decide), Option.bind_some, fLc_181 f, hc]
      · obtain ⟨rfl, f, cp⟩ := hI
        show f_X10_laysCosts_L12 _ _ _ _ _ _ _ _ = _
        rw [f_X10_laysCosts_L12, v_mny, show m1.1 181 54 = Int32.ofNat n by rw [f.2 _ _ (by omega) (by omega) (by omega)]; exact h0, Option.bind_some, if_pos (by rw [n_le (by omega) (by omega)]; omega)]
    obtain ⟨y', m1, ⟨-, hI1, hI2⟩, he⟩ := lp
    exact ⟨m1, ⟨hI1, fun a b h1 h2 h4 => hI2 a b h1 h2 (by omega)⟩, fun c2 e86 e80 => he (c2, e86, e80)⟩
  refine lo2 (L := f_X10_laysCosts_L2 (zb gl) (fun m => some m)) (fun k y m => y = Int32.ofNat k ∧ fLc μ m ∧ ∀ a b, a < n → b < n → a < k → m.1 196 (8 * a + b) = Int32.ofNat (if a = b then 1000000 else c a b)) (fun o => ∃ m, o = some m ∧ CRd m n c ∧ fLc μ m) n (fun k y m hk hI => Or.inl ?_) (fun y m hI F => ?_) (fu_lt (by omega)) ⟨rfl, fLc_refl μ, fun a b h1 h2 h4 => absurd h4 (Nat.not_lt_zero _)⟩
  · obtain ⟨rfl, f, cp⟩ := hI
    obtain ⟨m1, h1, h2⟩ := inner k hk m f cp
    refine ⟨_, m1, ⟨rfl, h1.1, h1.2⟩, fun F => ?_⟩
    rw [f_X10_laysCosts_L2, v_mny, show m.1 181 54 = Int32.ofNat n by rw [f.2 _ _ (by omega) (by omega) (by omega)]; exact h0, Option.bind_some, if_neg (by rw [n_le (by omega) (by omega)]; omega), show (0 : Int32) = Int32.ofNat 0 from rfl, h2, show Int32.ofNat k + 1 = Int32.ofNat (k + 1) from n_add k 1]
  · obtain ⟨rfl, f, cp⟩ := hI
    refine ⟨m, ?_, fun a b h1 h2 => cp a b h1 h2 h1, f⟩
    rw [f_X10_laysCosts_L2, v_mny, show m.1 181 54 = Int32.ofNat n by rw [f.2 _ _ (by omega) (by omega) (by omega)]; exact h0, Option.bind_some, if_pos (by rw [n_le (by omega) (by omega)]; omega)]
theorem v_best {w : Bool} {c : Nat → Nat → Nat} {m : hm_M} (hn : n ≤ 8) (hM : MR w m n (cc8 c)) (hc : c9 c) (hs : ∀ a b, c a b = c b a) (what : Int32) : ∃ m1, f_X10_bestRing what m = some (if 0 ≤ what.toInt ∧ what.toInt ≤ n then resP w c n what else -1, m1) ∧ m1.2 = m.2 ∧ ∀ a j, ¬ (a = 179 ∧ j = 38) → a ≠ 197 → a ≠ 198 → m1.1 a j = m.1 a j := by
  unfold f_X10_bestRing
  rw [v_mny, hM.1, Option.bind_some, v_lies, Option.bind_some, n_toInt (by omega)]
  by_cases z : (0 : Int32).toInt ≤ what.toInt ∧ what.toInt ≤ (n : Int)
  · have z' : 0 ≤ what.toInt ∧ what.toInt ≤ (n : Int) := z
    rw [if_pos z, if_neg (by decide), if_pos z']
    obtain ⟨q, rfl, eq, lq⟩ := v_of (x := what) (by omega)
    have hq : q ≤ n := by omega
    rw [pI_some, Option.bind_some, show (0 : Int32) = Int32.ofNat 0 from rfl, sd_n (by omega) (by decide), Option.bind_some, v_mny, wI_ne (by omega), wI_ne (by omega), hM.1, Option.bind_some]
    generalize hm5 : hm_wI (hm_wI m 179 38 1000000) 197 0 (Int32.ofNat 0) = m5
    have f5 : m5.2 = m.2 ∧ ∀ a j, ¬ (a = 179 ∧ j = 38) → a ≠ 197 → m5.1 a j = m.1 a j := ⟨by rw [← hm5]; rfl, fun a j z1 z2 => by rw [← hm5, wI_ne (by omega), wI_ne (by omega)]⟩
    have k38 : m5.1 179 38 = 1000000 := by rw [← hm5, wI_ne (by omega), wI_at]
    have none' : ∀ m1 : hm_M, m1.1 179 38 = 1000000 → f_X10_bestRing_J42 (Int32.ofNat q) m1 = some (-1, m1) := fun m1 h => by
      unfold f_X10_bestRing_J42
      rw [if_pos h]
    unfold resP
    by_cases h3 : 3 ≤ n
    · rw [if_neg (by rw [show (3 : Int32) = Int32.ofNat 3 from rfl, n_lt (by omega) (by omega)]; omega)]
      have hM5 : MR w m5 n (cc8 c) := ⟨by rw [f5.2 _ _ (by omega) (by omega)]; exact hM.1, fun a b ha hb hab => by rw [f5.2 _ _ (by omega) (by omega)]; exact hM.2.1 a b ha hb hab, by rw [f5.2 _ _ (by omega) (by omega)]; exact hM.2.2⟩
      have h4 : 2 ^ 2 ≤ 2 ^ n := Nat.pow_le_pow_right (by decide) (by omega)
      obtain ⟨m1, t1, t2, t3⟩ := v_tries (w := w) hn h3 (cc8_I hc) (n - 1) 40 [] 1 0 0 m5 (1000000, none) (by omega) (by show 0 + 1 + (n - 1) = n; omega) (by omega) (fun x hx => by cases hx) List.nodup_nil rfl (by omega) (by decide) (Nat.zero_le _) hM5 ⟨by rw [← hm5, wI_at]; rfl, fun i hi => absurd hi (Nat.not_lt_zero _)⟩ ⟨k38, Nat.le_refl _, fun g hg => by cases hg⟩
      have eF : (rws n (n - 1) 1).foldl (uq w (cc8 c) [] 0 0) (1000000, none) = FB w c n := by
        unfold FB
        rw [if_pos h3]
        congr 1
        funext st r
        unfold uq rUpd
        rw [List.nil_append, rop_0 (pth_I (cc8_I hc))]
      rw [eF] at t2
      rw [show F_X10_triesRing 1 1 (Int32.ofNat 0) m5 = some m1 from t1, Option.bind_some]
      have fr : m1.2 = m.2 ∧ ∀ a j, ¬ (a = 179 ∧ j = 38) → a ≠ 197 → a ≠ 198 → m1.1 a j = m.1 a j := ⟨t3.1.trans f5.1, fun a j z1 z2 z3 => by rw [t3.2 a j (by omega) z3 z1, f5.2 a j z1 z2]⟩
      obtain ⟨k, hk⟩ : ∃ k, n = k + 2 := ⟨n - 2, by omega⟩
      obtain ⟨r1, r2⟩ := ring_pure (w := w) (c := cc8 c) (n := n) (k := k) (cc8_s hs) (cc8_I hc) (by omega)
      have hI := Hc_I (w := w) (n := n) (cc8_I hc) (k + 1) 1 0
      have eB : FB w c n = (rws n (k + 1) 1).foldl (rUpd ori (pth w (cc8 c) 0 0)) (1000000, none) := by
        unfold FB
        rw [if_pos h3, show n - 1 = k + 1 by omega]
      rcases Nat.lt_or_ge (Hc w (cc8 c) n (k + 1) 1 0) 1000000 with hlt | hge
      · obtain ⟨g, g1, g2, g3, g4⟩ := r2 hlt
        rw [eB, g4] at t2 ⊢
        obtain ⟨b1, b2, b3⟩ := t2
        refine ⟨m1, ?_, fr⟩
        unfold f_X10_bestRing_J42
        rw [b1, if_neg (show ¬ Int32.ofNat (Hc w (cc8 c) n (k + 1) 1 0) = 1000000 by rw [show (1000000 : Int32) = Int32.ofNat 1000000 from rfl, n_eq (by omega) (by omega)]; omega)]
        by_cases y0 : q = 0
        · rw [y0, if_pos (show Int32.ofNat 0 = 0 from rfl)]
          rfl
        · have ne0 : ¬ Int32.ofNat q = 0 := by rw [show (0 : Int32) = Int32.ofNat 0 from rfl, n_eq (by omega) (by omega)]; exact y0
          rw [if_neg ne0, show (1 : Int32) = Int32.ofNat 1 from rfl, n_sub (by omega), ld_n (by omega) (by decide), Option.bind_some, b3 g rfl (q - 1) (by omega)]
          show _ = some ((if Int32.ofNat q = 0 then _ else _), m1)
          rw [if_neg ne0, nat_n (by omega)]
      · have hIe : Hc w (cc8 c) n (k + 1) 1 0 = 1000000 := by omega
        rw [eB, r1 hIe] at t2 ⊢
        exact ⟨m1, none' m1 t2.1, fr⟩
    · rw [if_pos (by rw [show (3 : Int32) = Int32.ofNat 3 from rfl, n_lt (by omega) (by omega)]; omega), none' m5 k38]
      unfold FB
      rw [if_neg h3]
      exact ⟨m5, rfl, f5.1, fun a j z1 z2 _ => f5.2 a j z1 z2⟩
  · have z' : ¬ (0 ≤ what.toInt ∧ what.toInt ≤ (n : Int)) := z
    rw [if_neg z, if_pos rfl, if_neg z']
    exact ⟨m, rfl, rfl, fun _ _ _ _ _ => rfl⟩
end
