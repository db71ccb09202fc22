/-! What holds between the two halves of the memory. -/
theorem wI_r (μ : hm_M) (a j : Nat) (v : Int32) : (hm_wI μ a j v).2 = μ.2 := rfl
/-- a law's text beside its program -/
def tkf (code : Nat → Int32) (N k : Nat) : Nat := if k < N then nat (code k) else 0
theorem tkf_0 (code : Nat → Int32) {N k : Nat} (h : N ≤ k) : tkf code N k = 0 := if_neg (by omega)
theorem tkf_cong {code code' : Nat → Int32} {N : Nat} (h : ∀ k, k < N → code' k = code k) : tkf code' N = tkf code N := funext fun k => by
  unfold tkf
  by_cases z : k < N
  · rw [if_pos z, if_pos z, h k z]
  · rw [if_neg z, if_neg z]
def lawc (C : pc_C) (L : List pc_K) (ops args cls : Nat → Int32) : Prop := (∀ k x, C[k]? = some x → ops k = x.1 ∧ args k = x.2) ∧ ∀ k q, L[k]? = some q → cls (6 * k) = Int32.ofNat q.1.1 ∧ cls (6 * k + 1) = Int32.ofNat q.1.2.1 ∧ cls (6 * k + 2) = Int32.ofNat q.1.2.2.1 ∧ cls (6 * k + 3) = Int32.ofNat q.1.2.2.2.1 ∧ cls (6 * k + 4) = Int32.ofNat q.1.2.2.2.2.1 ∧ cls (6 * k + 5) = Int32.ofNat q.1.2.2.2.2.2
def lawr (ops args cls : Nat → Int32) (size csize : Int32) (code value : Nat → Int32) (ntok : Int32) : Prop := bd ntok 401 ∧ (∀ k, k < nat ntok → bd (code k) 400 ∧ bd (value k) 100000000) ∧ ∃ (C : pc_C) (L : List pc_K), pc_text false (tkf code (nat ntok)) (tkf value (nat ntok)) (nat ntok) 12 0 0 [] [] = .ok (C, L) ∧ (size = Int32.ofNat C.length ∧ csize = Int32.ofNat L.length) ∧ lawc C L ops args cls
theorem lawr_cong {ops args cls : Nat → Int32} {size csize : Int32} {code value code' value' : Nat → Int32} {ntok : Int32} (h : lawr ops args cls size csize code value ntok) (h1 : ∀ k, k < 400 → code' k = code k) (h2 : ∀ k, k < 400 → value' k = value k) : lawr ops args cls size csize code' value' ntok := by
  obtain ⟨a1, a2, C, L, a3, a4⟩ := h
  have l1 := a1.2
  refine ⟨a1, fun k hk => ?_, C, L, ?_, a4⟩
  · rw [h1 k (by omega), h2 k (by omega)]
    exact a2 k hk
  · rw [tkf_cong fun k hk => h1 k (by omega), tkf_cong fun k hk => h2 k (by omega)]
    exact a3
def pgl (μ : hm_M) (p : Nat) : Prop := hm_ln μ (p + 1) = nat (μ.1 p 3) ∧ hm_ln μ (p + 2) = nat (μ.1 p 3) ∧ hm_ln μ (p + 3) = 6 * nat (μ.1 p 4)
/-- the row of all that is told -/
def rw_hold (ρ : Nat → Int32) : Prop := (∀ p q, p < 8 → q < 8 → (nat (ρ (16 + p))).testBit q = (nat (ρ (16 + q))).testBit p) ∧ ∀ p q, p < 8 → (nat (ρ (16 + p))).testBit q = true → p < nat (ρ 54) ∧ q < nat (ρ 54) ∧ p ≠ q
def rw_seen (ρ : Nat → Int32) : Prop := ∀ k, k < nat (ρ 55) → bd (ρ (33 + 3 * k)) (nat (ρ 54)) ∧ bd (ρ (34 + 3 * k)) (nat (ρ 54)) ∧ ρ (33 + 3 * k) ≠ ρ (34 + 3 * k) ∧ bd (ρ (35 + 3 * k)) 2
def rw_force (ρ : Nat → Int32) : Prop := ρ 57 = -1 ∨ bd (ρ 57) (nat (ρ 56))
def RW (ρ : Nat → Int32) : Prop := bd (ρ 54) 9 ∧ (∀ i, i < 8 → bd (ρ i) 25 ∧ bd (ρ (8 + i)) 5 ∧ bd (ρ (25 + i)) 4 ∧ bd (ρ (16 + i)) 256) ∧ (bd (ρ 24) 1000 ∧ bd (ρ 51) 11 ∧ bd (ρ 52) 10 ∧ bd (ρ 53) 100) ∧ bd (ρ 55) 7 ∧ bd (ρ 56) 7 ∧ rw_hold ρ ∧ rw_seen ρ
def vb_laws (μ : hm_M) (v : Nat) (ρ : Nat → Int32) : Prop := ∀ t, t < nat (ρ 56) → ∃ p, μ.2.2.1 (v + 6) t = some p ∧ 205 ≤ p ∧ pgl μ p ∧ lawr (μ.1 (p + 1)) (μ.1 (p + 2)) (μ.1 (p + 3)) (μ.1 p 3) (μ.1 p 4) (fun k => ρ (65 + 400 * t + k)) (fun k => ρ (2865 + 400 * t + k)) (ρ (58 + t))
def vb_seen (μ : hm_M) (v : Nat) (ρ : Nat → Int32) : Prop := ∀ k, k < nat (ρ 55) → ((ρ (33 + 3 * k) < ρ (34 + 3 * k) ∧ μ.1 (v + 7) k = ρ (33 + 3 * k) ∧ μ.1 (v + 8) k = ρ (34 + 3 * k)) ∨ (ρ (34 + 3 * k) < ρ (33 + 3 * k) ∧ μ.1 (v + 7) k = ρ (34 + 3 * k) ∧ μ.1 (v + 8) k = ρ (33 + 3 * k))) ∧ μ.1 (v + 9) k = ρ (35 + 3 * k)
/-- a village beside a row -/
def VB (μ : hm_M) (v : Nat) (ρ : Nat → Int32) : Prop := μ.1 v 0 = ρ 54 ∧ (∀ i, i < 8 → μ.1 (v + 1) i = ρ i ∧ μ.1 (v + 2) i = ρ (8 + i) ∧ μ.1 (v + 3) i = ρ (25 + i) ∧ μ.1 (v + 4) i = ρ (16 + i)) ∧ (μ.1 (v + 5) 0 = ρ 24 ∧ μ.1 (v + 5) 1 = ρ 51 ∧ μ.1 (v + 5) 2 = ρ 52 ∧ μ.1 (v + 5) 3 = ρ 53) ∧ (μ.1 v 12 = ρ 55 ∧ μ.1 v 7 = ρ 56) ∧ vb_seen μ v ρ ∧ vb_laws μ v ρ
def VR (μ : hm_M) (v : Nat) (ρ : Nat → Int32) : Prop := RW ρ ∧ rw_force ρ ∧ μ.1 v 8 = ρ 57 ∧ VB μ v ρ
/-- the images -/
def PI (μ : hm_M) : Prop := ∀ k, k < 2 → μ.1 76 k = μ.1 183 k ∧ (μ.1 76 k = 0 ∨ μ.1 76 k = 1 ∧ VR μ (159 + 10 * k) (fun j => μ.1 182 (5665 * k + j)))
/-- days on paper -/
def PD (μ : hm_M) : Prop := (μ.1 64 4 = 0 ∧ μ.1 179 54 = -1) ∨ (μ.1 64 4 = 1 ∧ μ.1 179 54 = μ.1 77 0 ∧ bd (μ.1 77 0) 9 ∧ ∀ i, i < 8 → μ.1 78 i = μ.1 204 i ∧ μ.1 79 i = μ.1 204 (8 + i) ∧ μ.1 81 i = μ.1 204 (16 + i))
/-- the steps that can be undone: notes in a ring from n rows at N, beside rows at M, many of them -/
def st_row (μ : hm_M) (N a M i : Nat) : Prop := (μ.1 (N + (a + i) % 17) 0 = μ.1 M (26 * i + 25) ∧ bd (μ.1 M (26 * i + 25)) 4 ∧ μ.1 (N + (a + i) % 17) 1 = μ.1 M (26 * i + 24) ∧ bd (μ.1 M (26 * i + 24)) 1000) ∧ (∀ j, j < 8 → (μ.1 (N + (a + i) % 17) (2 + j) = μ.1 M (26 * i + j) ∧ bd (μ.1 M (26 * i + j)) 25) ∧ (μ.1 (N + (a + i) % 17) (10 + j) = μ.1 M (26 * i + 8 + j) ∧ bd (μ.1 M (26 * i + 8 + j)) 5) ∧ μ.1 (N + (a + i) % 17) (18 + j) = μ.1 M (26 * i + 16 + j) ∧ bd (μ.1 M (26 * i + 16 + j)) 256) ∧ (∀ p q, p < 8 → q < 8 → (nat (μ.1 M (26 * i + 16 + p))).testBit q = (nat (μ.1 M (26 * i + 16 + q))).testBit p) ∧ ∀ p q, p < 8 → (nat (μ.1 M (26 * i + 16 + p))).testBit q = true → p < nat (μ.1 181 54) ∧ q < nat (μ.1 181 54) ∧ p ≠ q
def PS (μ : hm_M) : Prop := bd (μ.1 87 1) 17 ∧ bd (μ.1 87 2) 17 ∧ μ.1 87 2 = μ.1 179 33 ∧ ∀ i, i < nat (μ.1 87 2) → st_row μ 89 (nat (μ.1 87 1)) 193 i
/-- the tape -/
def byt (b : Nat) : Int32 := if b < 128 then Int32.ofNat b else Int32.ofNat b - 256
def PT (μ : hm_M) : Prop := bd (μ.1 64 12) 401 ∧ μ.1 64 12 = μ.1 179 13 ∧ ∀ i, i < 400 → bd (μ.1 156 i) 256 ∧ μ.1 186 i = byt (nat (μ.1 156 i))
def PM (μ : hm_M) : Prop := (μ.1 64 13 = μ.1 179 14 ∧ μ.1 64 14 = μ.1 179 46 ∧ μ.1 64 15 = μ.1 179 6 ∧ μ.1 64 16 = μ.1 179 0) ∧ μ.1 157 0 = μ.1 180 1 ∧ μ.1 157 1 = μ.1 180 2 ∧ μ.1 157 2 = μ.1 180 3 ∧ μ.1 157 3 = μ.1 180 5 ∧ μ.1 157 4 = μ.1 180 6
def wbytes : List Nat := "loses tires bars if or and not one other kind kin far reach mood day done latest holds lost cell hands take with loose from walk to pass times ".toList.map Char.toNat
def PC (μ : hm_M) : Prop := ∀ i, i < 143 → μ.1 185 i = Int32.ofNat (wbytes.getD i 0)
def PP (μ : hm_M) : Prop := VR μ 65 (μ.1 181) ∧ PI μ ∧ PD μ ∧ PS μ ∧ PT μ ∧ PM μ ∧ PC μ
/-- what it depends on -/
def dV (a : Nat) : Prop := (65 ≤ a ∧ a ≤ 74) ∨ a = 181 ∨ 205 ≤ a
def dI (a : Nat) : Prop := a = 76 ∨ a = 183 ∨ a = 182 ∨ (159 ≤ a ∧ a ≤ 178) ∨ 205 ≤ a
def dD (a j : Nat) : Prop := (a = 64 ∧ j = 4) ∨ (a = 179 ∧ j = 54) ∨ (77 ≤ a ∧ a ≤ 81) ∨ a = 204
def dS (a j : Nat) : Prop := (87 ≤ a ∧ a ≤ 105) ∨ a = 193 ∨ (a = 179 ∧ j = 33) ∨ (a = 181 ∧ j = 54)
def dT (a j : Nat) : Prop := (a = 64 ∧ j = 12) ∨ (a = 179 ∧ j = 13) ∨ a = 156 ∨ a = 186
def dM (a j : Nat) : Prop := (a = 64 ∧ 13 ≤ j ∧ j ≤ 16) ∨ (a = 179 ∧ (j = 0 ∨ j = 6 ∨ j = 14 ∨ j = 46)) ∨ a = 157 ∨ a = 180
section CONG
variable {μ μ' : hm_M}
theorem VB.same {v : Nat} {ρ : Nat → Int32} (h : VB μ v ρ) (h2 : μ'.2.2 = μ.2.2) (h1 : ∀ a j, (v ≤ a ∧ a ≤ v + 9) ∨ 205 ≤ a → μ'.1 a j = μ.1 a j) : VB μ' v ρ := by
  obtain ⟨a1, a2, a3, a4, a5, a6⟩ := h
  have e0 : ∀ a j, v ≤ a → a ≤ v + 9 → μ'.1 a j = μ.1 a j := fun a j z1 z2 => h1 a j (Or.inl ⟨z1, z2⟩)
  refine ⟨by rw [e0 _ _ (by omega) (by omega)]; exact a1, fun i hi => ?_, ?_, ?_, fun k hk => ?_, fun t ht => ?_⟩
  · have := a2 i hi
    rw [e0 _ _ (by omega) (by omega), e0 _ _ (by omega) (by omega), e0 _ _ (by omega) (by omega), e0 _ _ (by omega) (by omega)]
    exact this
  · rw [e0 _ _ (by omega) (by omega), e0 _ _ (by omega) (by omega), e0 _ _ (by omega) (by omega), e0 _ _ (by omega) (by omega)]
    exact a3
  · rw [e0 _ _ (by omega) (by omega), e0 _ _ (by omega) (by omega)]
    exact a4
  · have := a5 k hk
    rw [e0 _ _ (by omega) (by omega), e0 _ _ (by omega) (by omega), e0 _ _ (by omega) (by omega)]
    exact this
  · obtain ⟨p, p1, p2, pl, p3⟩ := a6 t ht
    have e1 : ∀ a, 205 ≤ a → μ'.1 a = μ.1 a := fun a ha => funext fun j => h1 a j (Or.inr ha)
    refine ⟨p, by rw [h2]; exact p1, p2, ?_, ?_⟩
    · unfold pgl at pl ⊢
      rw [e1 _ p2, show hm_ln μ' = hm_ln μ from congrArg (fun z => z.2.2.2) h2]
      exact pl
    rw [e1 _ (by omega), e1 _ (by omega), e1 _ (by omega), e1 _ (by omega)]
    exact p3
theorem VR.same {v : Nat} {ρ : Nat → Int32} (h : VR μ v ρ) (h2 : μ'.2.2 = μ.2.2) (h1 : ∀ a j, (v ≤ a ∧ a ≤ v + 9) ∨ 205 ≤ a → μ'.1 a j = μ.1 a j) : VR μ' v ρ := ⟨h.1, h.2.1, by rw [h1 _ _ (Or.inl ⟨by omega, by omega⟩)]; exact h.2.2.1, h.2.2.2.same h2 h1⟩
theorem PV.same (h : VR μ 65 (μ.1 181)) (h2 : μ'.2.2 = μ.2.2) (h1 : ∀ a j, dV a → μ'.1 a j = μ.1 a j) : VR μ' 65 (μ'.1 181) := by
  have e : μ'.1 181 = μ.1 181 := funext fun j => h1 181 j (by unfold dV; omega)
  rw [e]
  exact h.same h2 fun a j z => h1 a j (by unfold dV; omega)
theorem PI.same (h : PI μ) (h2 : μ'.2.2 = μ.2.2) (h1 : ∀ a j, dI a → μ'.1 a j = μ.1 a j) : PI μ' := by
  intro k hk
  have e : ∀ j, μ'.1 182 j = μ.1 182 j := fun j => h1 182 j (by unfold dI; omega)
  rw [h1 76 k (by unfold dI; omega), h1 183 k (by unfold dI; omega)]
  refine ⟨(h k hk).1, (h k hk).2.imp id fun z => ⟨z.1, ?_⟩⟩
  simp only [e]
  exact z.2.same h2 fun a j z => h1 a j (by unfold dI; omega)
theorem PD.same (h : PD μ) (h1 : ∀ a j, dD a j → μ'.1 a j = μ.1 a j) : PD μ' := by
  unfold PD at h ⊢
  rw [h1 64 4 (by unfold dD; omega), h1 179 54 (by unfold dD; omega), h1 77 0 (by unfold dD; omega)]
  refine h.imp id fun z => ⟨z.1, z.2.1, z.2.2.1, fun i hi => ?_⟩
  rw [h1 78 i (by unfold dD; omega), h1 79 i (by unfold dD; omega), h1 81 i (by unfold dD; omega), h1 204 i (by unfold dD; omega), h1 204 (8 + i) (by unfold dD; omega), h1 204 (16 + i) (by unfold dD; omega)]
  exact z.2.2.2 i hi
theorem st_row.same {N a M i : Nat} (h : st_row μ N a M i) (hN : ∀ k j, k < 17 → μ'.1 (N + k) j = μ.1 (N + k) j) (hM : ∀ j, μ'.1 M j = μ.1 M j) (h5 : μ'.1 181 54 = μ.1 181 54) : st_row μ' N a M i := by
  unfold st_row at h ⊢
  have hm : (a + i) % 17 < 17 := Nat.mod_lt _ (by decide)
  simp only [hN _ _ hm, hM, h5]
  exact h
theorem PS.same (h : PS μ) (h1 : ∀ a j, dS a j → μ'.1 a j = μ.1 a j) : PS μ' := by
  obtain ⟨a1, a2, a3, a4⟩ := h
  unfold PS
  rw [h1 87 1 (by unfold dS; omega), h1 87 2 (by unfold dS; omega), h1 179 33 (by unfold dS; omega)]
  exact ⟨a1, a2, a3, fun i hi => (a4 i hi).same (fun k j hk => h1 _ _ (by unfold dS; omega)) (fun j => h1 _ _ (by unfold dS; omega)) (h1 _ _ (by unfold dS; omega))⟩
theorem PT.same (h : PT μ) (h1 : ∀ a j, dT a j → μ'.1 a j = μ.1 a j) : PT μ' := by
  obtain ⟨a1, a2, a3⟩ := h
  unfold PT
  rw [h1 64 12 (by unfold dT; omega), h1 179 13 (by unfold dT; omega)]
  refine ⟨a1, a2, fun i hi => ?_⟩
  rw [h1 156 i (by unfold dT; omega), h1 186 i (by unfold dT; omega)]
  exact a3 i hi
theorem PM.same (h : PM μ) (h1 : ∀ a j, dM a j → μ'.1 a j = μ.1 a j) : PM μ' := by
  unfold PM at h ⊢
  rw [h1 64 13 (by unfold dM; omega), h1 64 14 (by unfold dM; omega), h1 64 15 (by unfold dM; omega), h1 64 16 (by unfold dM; omega), h1 179 14 (by unfold dM; omega), h1 179 46 (by unfold dM; omega), h1 179 6 (by unfold dM; omega), h1 179 0 (by unfold dM; omega), h1 157 0 (by unfold dM; omega), h1 157 1 (by unfold dM; omega), h1 157 2 (by unfold dM; omega), h1 157 3 (by unfold dM; omega), h1 157 4 (by unfold dM; omega), h1 180 1 (by unfold dM; omega), h1 180 2 (by unfold dM; omega), h1 180 3 (by unfold dM; omega), h1 180 5 (by unfold dM; omega), h1 180 6 (by unfold dM; omega)]
  exact h
theorem PC.same (h : PC μ) (h1 : ∀ j, μ'.1 185 j = μ.1 185 j) : PC μ' := fun i hi => by rw [h1]; exact h i hi
/-- only what nobody asks for has changed -/
def SC (μ μ' : hm_M) : Prop := μ'.2.2 = μ.2.2 ∧ ∀ a j, dV a ∨ dI a ∨ dD a j ∨ dS a j ∨ dT a j ∨ dM a j ∨ a = 185 → μ'.1 a j = μ.1 a j
theorem PP.same (h : PP μ) (c : SC μ μ') : PP μ' := by
  obtain ⟨a1, a2, a3, a4, a5, a6, a7⟩ := h
  obtain ⟨c2, c1⟩ := c
  exact ⟨PV.same a1 c2 fun a j z => c1 a j (Or.inl z), a2.same c2 fun a j z => c1 a j (Or.inr (Or.inl z)), a3.same fun a j z => c1 a j (Or.inr (Or.inr (Or.inl z))), a4.same fun a j z => c1 a j (Or.inr (Or.inr (Or.inr (Or.inl z)))), a5.same fun a j z => c1 a j (Or.inr (Or.inr (Or.inr (Or.inr (Or.inl z))))), a6.same fun a j z => c1 a j (Or.inr (Or.inr (Or.inr (Or.inr (Or.inr (Or.inl z)))))), a7.same fun j => c1 185 j (Or.inr (Or.inr (Or.inr (Or.inr (Or.inr (Or.inr rfl))))))⟩
end CONG
