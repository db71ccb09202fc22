section
/-! The two to ask for. -/
def bs (v : Nat → Nat → Nat) (a b : Nat) (s : Int32 × Nat) : Int32 × Nat := if v a b < s.2 then (Int32.ofNat (10 * a + b), v a b) else s
def bi (v : Nat → Nat → Nat) (a lo : Nat) (s : Int32 × Nat) : Nat → Int32 × Nat
  | 0 => s
  | k + 1 => bs v a (lo + k) (bi v a lo s k)
def bo (v : Nat → Nat → Nat) (n : Nat) : Nat → Int32 × Nat
  | 0 => (-1, 1000000)
  | k + 1 => bi v k (k + 1) (bo v n k) (n - (k + 1))
variable {m : hm_M} {n : Nat} {v W : Nat → Nat → Nat} {F : Nat}
theorem bs_le {a b : Nat} {s : Int32 × Nat} (h : s.2 ≤ 1000000) : (bs v a b s).2 ≤ 1000000 := by
  unfold bs
  split
  · show v a b ≤ _; omega
  · exact h
theorem bi_le {a lo : Nat} {s : Int32 × Nat} (h : s.2 ≤ 1000000) : ∀ k, (bi v a lo s k).2 ≤ 1000000
  | 0 => h
  | k + 1 => bs_le (bi_le h k)
theorem bo_le : ∀ k, (bo v n k).2 ≤ 1000000
  | 0 => Nat.le_refl _
  | k + 1 => bi_le (bo_le k) _
def bOk (v : Nat → Nat → Nat) (n : Nat) (s : Int32 × Nat) : Prop := ∃ a b, a < b ∧ b < n ∧ s = (Int32.ofNat (10 * a + b), v a b)
theorem bs_ok {a b : Nat} {s : Int32 × Nat} (hab : a < b) (hb : b < n) (h : bOk v n s) : bOk v n (bs v a b s) := by
  unfold bs
  split
  · exact ⟨a, b, hab, hb, rfl⟩
  · exact h
theorem bi_ok {a lo : Nat} {s : Int32 × Nat} (hlo : a < lo) (h : bOk v n s) : ∀ k, lo + k ≤ n → bOk v n (bi v a lo s k)
  | 0, _ => h
  | k + 1, hk => bs_ok (by omega) (by omega) (bi_ok hlo h k (by omega))
theorem bi_ok1 {a lo : Nat} (hlo : a < lo) (hv : ∀ a b, a < b → b < n → v a b < 1000000) : ∀ k, lo + (k + 1) ≤ n → bOk v n (bi v a lo (-1, 1000000) (k + 1))
  | 0, hk => by
    show bOk v n (bs v a lo (-1, 1000000))
    unfold bs
    rw [if_pos (hv a lo hlo (by omega))]
    exact ⟨a, lo, hlo, by omega, rfl⟩
  | k + 1, hk => bs_ok (by omega) (by omega) (bi_ok1 hlo hv k (by omega))
theorem bo_ok (h2 : 2 ≤ n) (hv : ∀ a b, a < b → b < n → v a b < 1000000) : ∀ k, k < n → bOk v n (bo v n (k + 1))
  | 0, _ => by
    show bOk v n (bi v 0 1 (-1, 1000000) (n - 1))
    rw [show n - 1 = (n - 2) + 1 by omega]
    exact bi_ok1 (by omega) hv _ (by omega)
  | k + 1, hk => bi_ok (by omega) (bo_ok h2 hv k (by omega)) _ (by omega)
theorem v_best2 {due : Int32} (hn : n ≤ 8) (h5 : m.1 145 5 = Int32.ofNat n) (hv : ∀ a b, a < b → b < n → v a b < 1000000) (hla : ∀ a b, a < b → b < n → f_X0_leftAtMost (Int32.ofNat a) (Int32.ofNat b) due m = some (Int32.ofNat (v a b))) : f_X0_bestAsked due m = some (bo v n n).1 := by
  have inner : ∀ (a : Nat) (s : Int32 × Nat), a < n → s.2 ≤ 1000000 → ∀ c8 e73 e67, f_X0_bestAsked_L23 due (Int32.ofNat a) c8 e73 e67 hm_fu s.1 (Int32.ofNat s.2) (Int32.ofNat (a + 1)) m = e67 (bi v a (a + 1) s (n - (a + 1))).1 (Int32.ofNat (bi v a (a + 1) s (n - (a + 1))).2) m := by
    intro a s ha hs c8 e73 e67
    refine lo4 (L := f_X0_bestAsked_L23 due (Int32.ofNat a) c8 e73 e67) (fun k y2 y3 y5 m1 => y2 = (bi v a (a + 1) s k).1 ∧ y3 = Int32.ofNat (bi v a (a + 1) s k).2 ∧ y5 = Int32.ofNat (a + 1 + k) ∧ m1 = m) (fun o => o = _) (n - (a + 1)) (fun k y2 y3 y5 m1 hk hI => Or.inl ?_) (fun y2 y3 y5 m1 hI G => ?_) (fu_lt (by omega)) ⟨rfl, rfl, rfl, rfl⟩
    · obtain ⟨rfl, rfl, rfl, rfl⟩ := hI
      have l1 := bi_le (v := v) (a := a) (lo := a + 1) hs k
      have l2 := hv a (a + 1 + k) (by omega) (by omega)
      refine ⟨_, _, _, m1, ⟨rfl, rfl, rfl, rfl⟩, fun G => ?_⟩
      rw [f_X0_bestAsked_L23, h5, if_neg (by rw [n_le (by omega) (by omega)]; omega), hla a (a + 1 + k) (by omega) (by omega), Option.bind_some]
      simp only [f_X0_bestAsked_J61]
      rw [show Int32.ofNat (a + 1 + k) + 1 = Int32.ofNat (a + 1 + (k + 1)) from n_add _ 1]
      show _ = f_X0_bestAsked_L23 due (Int32.ofNat a) c8 e73 e67 G (bs v a (a + 1 + k) (bi v a (a + 1) s k)).1 (Int32.ofNat (bs v a (a + 1 + k) (bi v a (a + 1) s k)).2) _ m1
      unfold bs
      by_cases z : v a (a + 1 + k) < (bi v a (a + 1) s k).2
      · rw [if_pos z, if_neg (by rw [n_le (by omega) (by omega)]; omega), Option.bind_some, show (10 : Int32) = Int32.ofNat 10 from rfl, n_mul, n_add]
      · rw [if_neg z, if_pos (by rw [n_le (by omega) (by omega)]; omega)]
    · obtain ⟨rfl, rfl, rfl, rfl⟩ := hI
      rw [f_X0_bestAsked_L23, h5, if_pos (by rw [n_le (by omega) (by omega)]; omega)]
  unfold f_X0_bestAsked
  refine lo4 (L := f_X0_bestAsked_L8 due (fun z5_2 μz5 => some z5_2)) (fun k y2 y3 y4 m1 => y2 = (bo v n k).1 ∧ y3 = Int32.ofNat (bo v n k).2 ∧ y4 = Int32.ofNat k ∧ m1 = m) (fun o => o = _) n (fun k y2 y3 y4 m1 hk hI => Or.inl ?_) (fun y2 y3 y4 m1 hI G => ?_) (fu_lt (by omega)) ⟨rfl, rfl, rfl, rfl⟩
  · obtain ⟨rfl, rfl, rfl, rfl⟩ := hI
    refine ⟨_, _, _, m1, ⟨rfl, rfl, rfl, rfl⟩, fun G => ?_⟩
    rw [f_X0_bestAsked_L8, h5, if_neg (by rw [n_le (by omega) (by omega)]; omega), show Int32.ofNat k + 1 = Int32.ofNat (k + 1) from n_add _ 1, inner k (bo v n k) hk (bo_le k)]
    rfl
  · obtain ⟨rfl, rfl, rfl, rfl⟩ := hI
    rw [f_X0_bestAsked_L8, h5, if_pos (by rw [n_le (by omega) (by omega)]; omega)]
theorem v_best10 {v1 : Int32} (hn : n ≤ 8) (h54 : m.1 181 54 = Int32.ofNat n) (hF : m.1 179 42 = Int32.ofNat F) (hF0 : 0 < F) (hFl : F < 1000000) (hW : ∀ a b, a < 8 → b < 8 → m.1 199 (8 * a + b) = Int32.ofNat (W a b)) (hWF : ∀ a b, a < b → b < n → W a b ≤ F) (hv : ∀ a b, v a b = max (W a b) (F - W a b)) (e116 : Int32 → Int32 → hm_M → Option (Int32 × hm_M)) : f_X10_ask_L23 v1 e116 hm_fu (-1 : Int32) (1000000 : Int32) (0 : Int32) m = e116 (bo v n n).1 (Int32.ofNat (bo v n n).2) m := by
  have hgr : ∀ a b, a < b → b < n → f_X10_greater (Int32.ofNat (W a b)) (Int32.ofNat F - Int32.ofNat (W a b)) = some (Int32.ofNat (v a b)) ∧ v a b < 1000000 := fun a b hab hb => by
    have h1 := hWF a b hab hb
    rw [hv, n_sub h1]
    unfold f_X10_greater
    by_cases z : W a b ≤ F - W a b
    · rw [if_pos (by rw [n_le (by omega) (by omega)]; exact z), Nat.max_eq_right z]
      exact ⟨rfl, by omega⟩
    · rw [if_neg (by rw [n_le (by omega) (by omega)]; exact z), Nat.max_eq_left (by omega)]
      exact ⟨rfl, by omega⟩
  have inner : ∀ (a : Nat) (s : Int32 × Nat), a < n → s.2 ≤ 1000000 → ∀ c23 e110, f_X10_ask_L45 v1 (Int32.ofNat a) c23 e116 e110 hm_fu s.1 (Int32.ofNat s.2) (Int32.ofNat (a + 1)) m = e110 (bi v a (a + 1) s (n - (a + 1))).1 (Int32.ofNat (bi v a (a + 1) s (n - (a + 1))).2) m := by
    intro a s ha hs c23 e110
    refine lo4 (L := f_X10_ask_L45 v1 (Int32.ofNat a) c23 e116 e110) (fun k y2 y3 y5 m1 => y2 = (bi v a (a + 1) s k).1 ∧ y3 = Int32.ofNat (bi v a (a + 1) s k).2 ∧ y5 = Int32.ofNat (a + 1 + k) ∧ m1 = m) (fun o => o = _) (n - (a + 1)) (fun k y2 y3 y5 m1 hk hI => Or.inl ?_) (fun y2 y3 y5 m1 hI G => ?_) (fu_lt (by omega)) ⟨rfl, rfl, rfl, rfl⟩
    · obtain ⟨rfl, rfl, rfl, rfl⟩ := hI
      have l1 := bi_le (v := v) (a := a) (lo := a + 1) hs k
      obtain ⟨g1, l2⟩ := hgr a (a + 1 + k) (by omega) (by omega)
      refine ⟨_, _, _, m1, ⟨rfl, rfl, rfl, rfl⟩, fun G => ?_⟩
      rw [f_X10_ask_L45, v_mny, h54, Option.bind_some, if_neg (by rw [n_le (by omega) (by omega)]; omega), show (8 : Int32) = Int32.ofNat 8 from rfl, n_mul, n_add, ld_n (by omega) (by decide), Option.bind_some, hF, hW a (a + 1 + k) (by omega) (by omega), g1, Option.bind_some]
      simp only [f_X10_ask_J104]
      rw [show Int32.ofNat (a + 1 + k) + 1 = Int32.ofNat (a + 1 + (k + 1)) from n_add _ 1]
      show _ = f_X10_ask_L45 v1 (Int32.ofNat a) c23 e116 e110 G (bs v a (a + 1 + k) (bi v a (a + 1) s k)).1 (Int32.ofNat (bs v a (a + 1 + k) (bi v a (a + 1) s k)).2) _ m1
      unfold bs
      by_cases z : v a (a + 1 + k) < (bi v a (a + 1) s k).2
      · rw [if_pos z, if_pos (by rw [n_lt (by omega) (by omega)]; omega), Option.bind_some, show (10 : Int32) = Int32.ofNat 10 from rfl, n_mul, n_add]
      · rw [if_neg z, if_neg (by rw [n_lt (by omega) (by omega)]; omega)]
    · obtain ⟨rfl, rfl, rfl, rfl⟩ := hI
      rw [f_X10_ask_L45, v_mny, h54, Option.bind_some, if_pos (by rw [n_le (by omega) (by omega)]; omega)]
  refine lo4 (L := f_X10_ask_L23 v1 e116) (fun k y2 y3 y4 m1 => y2 = (bo v n k).1 ∧ y3 = Int32.ofNat (bo v n k).2 ∧ y4 = Int32.ofNat k ∧ m1 = m) (fun o => o = _) n (fun k y2 y3 y4 m1 hk hI => Or.inl ?_) (fun y2 y3 y4 m1 hI G => ?_) (fu_lt (by omega)) ⟨rfl, rfl, rfl, rfl⟩
  · obtain ⟨rfl, rfl, rfl, rfl⟩ := hI
    refine ⟨_, _, _, m1, ⟨rfl, rfl, rfl, rfl⟩, fun G => ?_⟩
    rw [f_X10_ask_L23, v_mny, h54, Option.bind_some, if_neg (by rw [n_le (by omega) (by omega)]; omega), hF, if_neg (by rw [show (0 : Int32) = Int32.ofNat 0 from rfl, n_le (by omega) (by omega)]; omega), show Int32.ofNat k + 1 = Int32.ofNat (k + 1) from n_add _ 1, inner k (bo v n k) hk (bo_le k)]
    rfl
  · obtain ⟨rfl, rfl, rfl, rfl⟩ := hI
    rw [f_X10_ask_L23, v_mny, h54, Option.bind_some, if_pos (by rw [n_le (by omega) (by omega)]; omega)]
end
