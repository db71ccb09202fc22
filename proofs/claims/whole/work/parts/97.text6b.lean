section
variable {T : Nat → Nat} {n : Nat}
def fz (μ m : hm_M) : Prop := m.2 = (hm_wR μ 150 1 (some 156)).2 ∧ ∀ a j, ¬ (a = 150 ∧ 2 ≤ j ∧ j ≤ 9) → ¬ (a = 151 ∧ (3 ≤ j ∧ j ≤ 5)) → a ≠ 152 → a ≠ 153 → a ≠ 154 → m.1 a j = μ.1 a j
theorem v_readText {μ : hm_M} (ord : Bool) (hn : n ≤ 400) (hT : ∀ i, i < n → T i < 256 ∧ μ.1 156 i = Int32.ofNat (T i)) (l1 : hm_ln μ 152 = 400) (l2 : hm_ln μ 153 = 400) (l3 : hm_ln μ 154 = 72) : ∃ x m, f_X6_readText (Int32.ofNat n) (zb (!ord)) μ = some (x, m) ∧ fz μ m ∧ match pc_text ord (tkc T n) (vlc T n) (tmy T n) 12 0 0 [] [] with
    | .error e => x = Int32.ofNat (tst T n e) ∧ e ≤ tmy T n
    | .ok (C, L) => x = -1 ∧ (C.length ≤ 400 ∧ L.length ≤ 12) ∧ (m.1 151 3 = Int32.ofNat C.length ∧ m.1 151 4 = Int32.ofNat L.length ∧ fl5 (m.1 151 5) ord C) ∧ lawc C L (m.1 152) (m.1 153) (m.1 154) := by
  unfold f_X6_readText hm_pR f_X5_clear
  rw [Option.bind_some, if_neg (by rw [n_lt (by omega) (by omega)]; omega), pI_some, Option.bind_some, zb_pZ, Option.bind_some, pI_some, Option.bind_some, pI_some, Option.bind_some, pI_some, Option.bind_some, pI_some, Option.bind_some, pI_some, Option.bind_some, show (0 : Int32) = zb false from rfl, zb_pZ, Option.bind_some, Option.bind_some]
  generalize hm9 : hm_wI (hm_wI (hm_wI (hm_wI (hm_wI (hm_wI (hm_wI (hm_wI (hm_wR μ 150 1 (some 156)) 150 2 (Int32.ofNat n)) 150 3 (zb (!ord))) 150 6 (zb false)) 150 8 (zb false)) 150 9 (zb false)) 151 3 (zb false)) 151 4 (zb false)) 151 5 (zb false) = m9
  have k : ∀ a j, ¬ (a = 150 ∧ 2 ≤ j ∧ j ≤ 9) → ¬ (a = 151 ∧ 3 ≤ j ∧ j ≤ 5) → m9.1 a j = μ.1 a j := fun a j z z1 => by
    rw [← hm9, wI_ne (by omega), wI_ne (by omega), wI_ne (by omega), wI_ne (by omega), wI_ne (by omega), wI_ne (by omega), wI_ne (by omega), wI_ne (by omega)]
    rfl
  have r9 : m9.2 = (hm_wR μ 150 1 (some 156)).2 := by rw [← hm9]; rfl
  have L9 : hm_ln m9 = hm_ln μ := by
    show m9.2.2.2.2.2 = _
    rw [r9]
    rfl
  have G9 : GT m9 T n := ⟨hn, fun i hi => ⟨(hT i hi).1, by rw [k _ _ (by omega) (by omega)]; exact (hT i hi).2⟩, by rw [← hm9, wI_ne (by omega), wI_ne (by omega), wI_ne (by omega), wI_ne (by omega), wI_ne (by omega), wI_ne (by omega), wI_ne (by omega), wI_at]⟩
  have B9 : QB m9 T n ord 0 0 [] := by
    refine ⟨⟨?_, ?_, ?_, by omega, by omega⟩, ⟨by rw [L9]; exact l1, by rw [L9]; exact l2, by rw [L9]; exact l3⟩, ?_, Or.inr ⟨?_, fun _ k q hk => by cases hk⟩, fun k x hk => by cases hk⟩
    · rw [← hm9, wI_ne (by omega), wI_ne (by omega), wI_ne (by omega), wI_ne (by omega), wI_ne (by omega), wI_ne (by omega), wI_at]
    · rw [← hm9, wI_ne (by omega), wI_ne (by omega), wI_ne (by omega), wI_ne (by omega), wI_at]; rfl
    · rw [← hm9, wI_ne (by omega), wI_ne (by omega), wI_ne (by omega), wI_at]; rfl
    · rw [← hm9, wI_ne (by omega), wI_ne (by omega), wI_at]; rfl
    · rw [← hm9, wI_at]; rfl
  have k4 : m9.1 151 4 = Int32.ofNat 0 := by rw [← hm9, wI_ne (by omega), wI_at]; rfl
  obtain ⟨m, q1, q2, q3⟩ := go_on (i := 0) G9 (show 0 ≤ n by omega) (by rw [← hm9, wI_ne (by omega), wI_ne (by omega), wI_ne (by omega), wI_ne (by omega), wI_ne (by omega), wI_at]; rfl) rfl
  rw [q1, Option.bind_some]
  have hQ : QA m T n ord 0 0 0 [] := ⟨q3, ⟨by omega, Nat.le_refl _⟩, B9.fg q2⟩
  obtain ⟨x, m2, s1, s2, s3⟩ := t6_more (v2 := Int32.ofNat n) (v3 := zb (!ord)) 12 hm_fu m m9 0 0 0 [] [] rfl (fu_lt (by omega)) rfl (fg_fa q2) hQ (k4_fw (fg_fw q2) k4) (fun p x hp => by cases hp)
  exact ⟨x, m2, s1, ⟨s2.1.trans r9, fun a j z z1 z2 z3 z4 => (s2.2 a j (by omega) z1 z2 z3 z4).trans (k a j z z1)⟩, s3⟩
end
