section
/-! People without whom the others fall apart. -/
theorem p2_bit {a i : Nat} : (2 ^ a).testBit i = true ↔ i = a := by
  by_cases h : i = a
  · subst h
    rw [Nat.testBit_two_pow_self]
    simp
  · rw [Nat.testBit_two_pow_of_ne (by omega)]
    simp [h]
section
variable {nx : Nat → Nat} {A n m : Nat}
theorem sp1_has {k i : Nat} (h1 : m.testBit k = true) (h2 : (nx k).testBit i = true) (h3 : A.testBit i = true) : ∀ K, k < K → (sp1 nx A K m).testBit i = true
  | 0, h => absurd h (Nat.not_lt_zero _)
  | K + 1, h => by
    unfold sp1
    by_cases e : k = K
    · subst e
      rw [if_pos (sp1_sub h1 k), Nat.testBit_or, Nat.testBit_and, h2, h3]
      simp
    · have := sp1_has h1 h2 h3 K (by omega)
      split
      · rw [Nat.testBit_or, this]; rfl
      · exact this
theorem sp1_min {T : Nat → Prop} (hT : ∀ i, m.testBit i = true → T i) (hc : ∀ k, k < n → T k → ∀ i, (nx k).testBit i = true → A.testBit i = true → T i) : ∀ K, K ≤ n → ∀ i, (sp1 nx A K m).testBit i = true → T i
  | 0, _ => hT
  | K + 1, h => by
    intro i
    have ih := sp1_min hT hc K (by omega)
    unfold sp1
    split
    · rename_i hk
      rw [Nat.testBit_or, Nat.testBit_and]
      intro z
      cases e : (sp1 nx A K m).testBit i with
      | true => exact ih i e
      | false =>
        rw [e, Bool.false_or, Bool.and_eq_true] at z
        exact hc K (by omega) (ih K hk) i z.1 z.2
    · exact ih i
theorem spn_min {T : Nat → Prop} (hT : ∀ i, m.testBit i = true → T i) (hc : ∀ k, k < n → T k → ∀ i, (nx k).testBit i = true → A.testBit i = true → T i) : ∀ r i, (spn nx A n r m).testBit i = true → T i
  | 0 => hT
  | r + 1 => sp1_min (spn_min hT hc r) hc n (Nat.le_refl _)
theorem spn_sub {i : Nat} (h : m.testBit i = true) : ∀ r, (spn nx A n r m).testBit i = true
  | 0 => h
  | r + 1 => sp1_sub (spn_sub h r) n
end
section
variable {nx : Nat → Nat} {A n : Nat}
def rch (nx : Nat → Nat) (A n a : Nat) : Nat := spn nx A n n (2 ^ a)
def gr (nx : Nat → Nat) (n : Nat) : Prop := n ≤ 8 ∧ (∀ k, k < n → ∀ i, (nx k).testBit i = true → i < n) ∧ ∀ a b, a < n → b < n → (nx a).testBit b = (nx b).testBit a
theorem rch_self (a : Nat) : (rch nx A n a).testBit a = true := spn_sub (p2_bit.mpr rfl) n
theorem rch_step (hg : gr nx n) (hA : A < 256) {a k i : Nat} (ha : a < n) (hk : k < n) (h1 : (rch nx A n a).testBit k = true) (h2 : (nx k).testBit i = true) (h3 : A.testBit i = true) : (rch nx A n a).testBit i = true := by
  have := spn_fix (m := 2 ^ a) hg.1 hA hg.2.1 (fun i hi => by rw [p2_bit.mp hi]; exact ha)
  unfold rch
  rw [← this]
  exact sp1_has h1 h2 h3 n hk
theorem rch_in (hg : gr nx n) {a i : Nat} (ha : a < n) (h : (rch nx A n a).testBit i = true) : i < n := spn_in hg.2.1 (fun i hi => by rw [p2_bit.mp hi]; exact ha) n i h
theorem rch_min {a : Nat} {T : Nat → Prop} (hT : T a) (hc : ∀ k, k < n → T k → ∀ i, (nx k).testBit i = true → A.testBit i = true → T i) (i : Nat) (h : (rch nx A n a).testBit i = true) : T i := spn_min (m := 2 ^ a) (fun i hi => by rw [p2_bit.mp hi]; exact hT) hc n i h
theorem rch_trans (hg : gr nx n) (hA : A < 256) {a k i : Nat} (ha : a < n) (h1 : (rch nx A n a).testBit k = true) (h2 : (rch nx A n k).testBit i = true) : (rch nx A n a).testBit i = true :=
  rch_min (T := fun x => (rch nx A n a).testBit x = true) h1 (fun _ hq h3 _ h4 h5 => rch_step hg hA ha hq h3 h4 h5) i h2
theorem rch_sym (hg : gr nx n) (hA : A < 256) {a b : Nat} (ha : a < n) (hAa : A.testBit a = true) (h : (rch nx A n a).testBit b = true) : (rch nx A n b).testBit a = true := by
  refine (rch_min (T := fun x => x < n ∧ A.testBit x = true ∧ (rch nx A n x).testBit a = true) ⟨ha, hAa, rch_self a⟩ (fun k hk h3 i h4 h5 => ?_) b h).2.2
  have hi := hg.2.1 k hk i h4
  refine ⟨hi, h5, ?_⟩
  have hki : (nx i).testBit k = true := by rw [← hg.2.2 k i hk hi]; exact h4
  exact rch_trans hg hA hi (rch_step hg hA hi hi (rch_self i) hki h3.2.1) h3.2.2
end
theorem m255 {i : Nat} (hi : i < 8) : (255 : Nat).testBit i = true := by
  have : ∀ i, i < 8 → (255 : Nat).testBit i = true := by decide
  exact this i hi
theorem wo_bit {p i : Nat} (hp : p < 8) (hi : i < 8) : (2 ^ p ^^^ 255).testBit i = decide (i ≠ p) := by
  rw [Nat.testBit_xor, m255 hi]
  by_cases h : i = p
  · subst h
    rw [Nat.testBit_two_pow_self]
    simp
  · rw [Nat.testBit_two_pow_of_ne (by omega)]
    simp [h]
theorem wo_lt {p : Nat} (hp : p < 8) : 2 ^ p ^^^ 255 < 256 := Nat.xor_lt_two_pow (n := 8) (p2_lt hp) (by decide)
/-- the lowest -/
def lwb (w : Nat) : Nat := if w.testBit 0 = true then 1 else if w.testBit 1 = true then 2 else if w.testBit 2 = true then 4 else if w.testBit 3 = true then 8 else if w.testBit 4 = true then 16 else if w.testBit 5 = true then 32 else if w.testBit 6 = true then 64 else if w.testBit 7 = true then 128 else 0
theorem n_lwb : ∀ w, w < 256 → Int32.ofNat w &&& -Int32.ofNat w = Int32.ofNat (lwb w) := by decide +kernel
theorem lwb_0 : ∀ w, w < 256 → (w = 0 ∧ lwb w = 0) ∨ ∃ f, f < 8 ∧ lwb w = 2 ^ f ∧ w.testBit f = true := by
  intro w hw
  unfold lwb
  by_cases h0 : w.testBit 0 = true
  · rw [if_pos h0]; exact Or.inr ⟨0, by decide, rfl, h0⟩
  · rw [if_neg h0]
    by_cases h1 : w.testBit 1 = true
    · rw [if_pos h1]; exact Or.inr ⟨1, by decide, rfl, h1⟩
    · rw [if_neg h1]
      by_cases h2 : w.testBit 2 = true
      · rw [if_pos h2]; exact Or.inr ⟨2, by decide, rfl, h2⟩
      · rw [if_neg h2]
        by_cases h3 : w.testBit 3 = true
        · rw [if_pos h3]; exact Or.inr ⟨3, by decide, rfl, h3⟩
        · rw [if_neg h3]
          by_cases h4 : w.testBit 4 = true
          · rw [if_pos h4]; exact Or.inr ⟨4, by decide, rfl, h4⟩
          · rw [if_neg h4]
            by_cases h5 : w.testBit 5 = true
            · rw [if_pos h5]; exact Or.inr ⟨5, by decide, rfl, h5⟩
            · rw [if_neg h5]
              by_cases h6 : w.testBit 6 = true
              · rw [if_pos h6]; exact Or.inr ⟨6, by decide, rfl, h6⟩
              · rw [if_neg h6]
                by_cases h7 : w.testBit 7 = true
                · rw [if_pos h7]; exact Or.inr ⟨7, by decide, rfl, h7⟩
                · rw [if_neg h7]
                  refine Or.inl ⟨eq8 hw (by decide) fun i hi => ?_, rfl⟩
                  have hi8 : i = 0 ∨ i = 1 ∨ i = 2 ∨ i = 3 ∨ i = 4 ∨ i = 5 ∨ i = 6 ∨ i = 7 := by omega
                  rw [Nat.zero_testBit]
                  have k : ∀ b : Bool, ¬ b = true → b = false := by decide
                  rcases hi8 with rfl | rfl | rfl | rfl | rfl | rfl | rfl | rfl <;> exact k _ (by assumption)
def wit (nx : Nat → Nat) (n p : Nat) : Nat := rch nx 255 n p &&& (2 ^ p ^^^ 255)
def stz (nx : Nat → Nat) (n p : Nat) : Bool := decide (spn nx (2 ^ p ^^^ 255) n n (lwb (wit nx n p)) ≠ wit nx n p)
def cnd (nx : Nat → Nat) (n p a : Nat) : Bool := decide ((rch nx 255 n a &&& (rch nx (2 ^ p ^^^ 255) n a ^^^ 255)) &&& (2 ^ p ^^^ 255) ≠ 0)
def pac (nx : Nat → Nat) (n p : Nat) : Nat → Bool
  | 0 => false
  | k + 1 => if k = p then pac nx n p k else pac nx n p k || cnd nx n p k
theorem pac_iff {nx : Nat → Nat} {n p : Nat} : ∀ K, pac nx n p K = true ↔ ∃ a, a < K ∧ a ≠ p ∧ cnd nx n p a = true
  | 0 => ⟨fun h => (by cases h), fun ⟨a, h, _⟩ => absurd h (Nat.not_lt_zero a)⟩
  | K + 1 => by
    have ih := pac_iff (nx := nx) (n := n) (p := p) K
    unfold pac
    by_cases e : K = p
    · rw [if_pos e, ih]
      constructor
      · rintro ⟨a, h1, h2, h3⟩; exact ⟨a, by omega, h2, h3⟩
      · rintro ⟨a, h1, h2, h3⟩; exact ⟨a, by omega, h2, h3⟩
    · rw [if_neg e, Bool.or_eq_true, ih]
      constructor
      · rintro (⟨a, h1, h2, h3⟩ | h)
        · exact ⟨a, by omega, h2, h3⟩
        · exact ⟨K, by omega, e, h⟩
      · rintro ⟨a, h1, h2, h3⟩
        by_cases z : a = K
        · subst z; exact Or.inr h3
        · exact Or.inl ⟨a, by omega, h2, h3⟩
section
variable {nx : Nat → Nat} {n p : Nat}
theorem rch_lt {A : Nat} (hA : A < 256) (a : Nat) (ha : a < 8) : rch nx A n a < 256 := spn_lt hA (p2_lt ha) n
theorem cnd_iff (hn : n ≤ 8) (hg : gr nx n) (hp : p < n) {a : Nat} (ha : a < n) : cnd nx n p a = true ↔ ∃ q, q ≠ p ∧ (rch nx 255 n a).testBit q = true ∧ (rch nx (2 ^ p ^^^ 255) n a).testBit q = false := by
  have hA := wo_lt (show p < 8 by omega)
  unfold cnd
  rw [decide_eq_true_iff]
  constructor
  · intro h
    obtain ⟨q, hq⟩ := Nat.exists_testBit_of_ne_zero h
    rw [Nat.testBit_and, Nat.testBit_and, Bool.and_eq_true, Bool.and_eq_true] at hq
    have hqn := rch_in hg ha hq.1.1
    rw [wo_bit (by omega) (by omega)] at hq
    refine ⟨q, of_decide_eq_true hq.2, hq.1.1, ?_⟩
    have := hq.1.2
    rw [Nat.testBit_xor, m255 (by omega)] at this
    cases e : (rch nx (2 ^ p ^^^ 255) n a).testBit q with
    | false => rfl
    | true => rw [e] at this; cases this
  · rintro ⟨q, h1, h2, h3⟩ h
    have hqn := rch_in hg ha h2
    have : ((rch nx 255 n a &&& (rch nx (2 ^ p ^^^ 255) n a ^^^ 255)) &&& (2 ^ p ^^^ 255)).testBit q = true := by
      rw [Nat.testBit_and, Nat.testBit_and, h2, Nat.testBit_xor, h3, m255 (by omega), wo_bit (by omega) (by omega), decide_eq_true h1]
      rfl
    rw [h, Nat.zero_testBit] at this
    cases this
theorem stay_eq (hg : gr nx n) (hp : p < n) : pac nx n p n = stz nx n p := by
  have hn := hg.1
  have hp8 : p < 8 := by omega
  have hA := wo_lt hp8
  have hA1 : (255 : Nat) < 256 := by decide
  have sub : ∀ a, a < n → ∀ i, (rch nx (2 ^ p ^^^ 255) n a).testBit i = true → (rch nx 255 n a).testBit i = true := fun a ha i h => rch_min (T := fun x => (rch nx 255 n a).testBit x = true) (rch_self a) (fun k hk h1 i h2 _ => rch_step hg hA1 ha hk h1 h2 (m255 (by have := hg.2.1 k hk i h2; omega))) i h
  have nop : ∀ a, a < n → a ≠ p → (rch nx (2 ^ p ^^^ 255) n a).testBit p = false := by
    intro a ha hap
    have := rch_min (nx := nx) (A := 2 ^ p ^^^ 255) (n := n) (a := a) (T := fun x => x ≠ p) hap (fun k hk _ i h1 h2 => by
      have hi := hg.2.1 k hk i h1
      rw [wo_bit hp8 (by omega)] at h2
      exact of_decide_eq_true h2) p
    cases e : (rch nx (2 ^ p ^^^ 255) n a).testBit p with
    | false => rfl
    | true => exact absurd rfl (this e)
  have witb : ∀ i, i < 8 → (wit nx n p).testBit i = ((rch nx 255 n p).testBit i && decide (i ≠ p)) := fun i hi => by
    unfold wit
    rw [Nat.testBit_and, wo_bit hp8 hi]
  have hwl : wit nx n p < 256 := Nat.and_lt_two_pow (n := 8) _ hA
  have witn : ∀ i, (wit nx n p).testBit i = true → i < n ∧ i ≠ p ∧ (rch nx 255 n p).testBit i = true := by
    intro i h
    have h1 : (rch nx 255 n p).testBit i = true := by
      unfold wit at h
      rw [Nat.testBit_and, Bool.and_eq_true] at h
      exact h.1
    have hi := rch_in hg hp h1
    rw [witb i (by omega), h1, Bool.true_and] at h
    exact ⟨hi, of_decide_eq_true h, h1⟩
  have key : pac nx n p n = true ↔ stz nx n p = true := by
    rw [pac_iff]
    unfold stz
    rw [decide_eq_true_iff]
    rcases lwb_0 (wit nx n p) hwl with ⟨w0, w1⟩ | ⟨f, hf8, w1, w2⟩
    · rw [w0, show lwb 0 = 0 from rfl]
      have e0 : spn nx (2 ^ p ^^^ 255) n n 0 = 0 := by
        apply Nat.eq_of_testBit_eq
        intro i
        rw [Nat.zero_testBit]
        cases e : (spn nx (2 ^ p ^^^ 255) n n 0).testBit i with
        | false => rfl
        | true =>
          have := spn_min (nx := nx) (A := 2 ^ p ^^^ 255) (n := n) (m := 0) (T := fun _ => False) (fun i hi => by rw [Nat.zero_testBit] at hi; cases hi) (fun _ _ h => h.elim) n i e
          exact this.elim
      rw [e0]
      constructor
      · rintro ⟨a, ha, hap, hc⟩
        exfalso
        obtain ⟨q, q1, q2, q3⟩ := (cnd_iff hn hg hp ha).mp hc
        -- nobody comes to p
        have hnp : (rch nx 255 n a).testBit p = false := by
          cases e : (rch nx 255 n a).testBit p with
          | false => rfl
          | true =>
            have := rch_sym hg hA1 ha (m255 (by omega)) e
            have h2 : (wit nx n p).testBit a = true := by rw [witb a (by omega), this, decide_eq_true hap]; rfl
            rw [w0, Nat.zero_testBit] at h2
            cases h2
        have : (rch nx (2 ^ p ^^^ 255) n a).testBit q = true := rch_min (T := fun x => (rch nx (2 ^ p ^^^ 255) n a).testBit x = true) (rch_self a) (fun k hk h1 i h2 _ => by
          have hi := hg.2.1 k hk i h2
          refine rch_step hg hA ha hk h1 h2 ?_
          rw [wo_bit hp8 (by omega)]
          refine decide_eq_true fun z => ?_
          subst z
          have := rch_step hg hA1 ha hk (sub a ha k h1) h2 (m255 (by omega))
          rw [hnp] at this
          cases this) q q2
        rw [q3] at this
        cases this
      · intro h; exact absurd rfl h
    · obtain ⟨hfn, hfp, hfr⟩ := witn f w2
      rw [w1]
      show _ ↔ rch nx (2 ^ p ^^^ 255) n f ≠ wit nx n p
      have hpf : (rch nx 255 n f).testBit p = true := rch_sym hg hA1 hp (m255 (by omega)) hfr
      constructor
      · rintro ⟨a, ha, hap, hc⟩ heq
        obtain ⟨q, q1, q2, q3⟩ := (cnd_iff hn hg hp ha).mp hc
        have hpa : (rch nx 255 n a).testBit p = true := by
          cases e : (rch nx 255 n a).testBit p with
          | true => rfl
          | false =>
            exfalso
            have : (rch nx (2 ^ p ^^^ 255) n a).testBit q = true := rch_min (T := fun x => (rch nx (2 ^ p ^^^ 255) n a).testBit x = true) (rch_self a) (fun k hk h1 i h2 _ => by
              have hi := hg.2.1 k hk i h2
              refine rch_step hg hA ha hk h1 h2 ?_
              rw [wo_bit hp8 (by omega)]
              refine decide_eq_true fun z => ?_
              subst z
              have := rch_step hg hA1 ha hk (sub a ha k h1) h2 (m255 (by omega))
              rw [e] at this
              cases this) q q2
            rw [q3] at this
            cases this
        have hap2 : (rch nx 255 n p).testBit a = true := rch_sym hg hA1 ha (m255 (by omega)) hpa
        have hpq : (rch nx 255 n p).testBit q = true := rch_trans hg hA1 hp hap2 q2
        have hqn := rch_in hg hp hpq
        have wa : (rch nx (2 ^ p ^^^ 255) n f).testBit a = true := by rw [heq, witb a (by omega), hap2, decide_eq_true hap]; rfl
        have wq : (rch nx (2 ^ p ^^^ 255) n f).testBit q = true := by rw [heq, witb q (by omega), hpq, decide_eq_true q1]; rfl
        have fa := rch_sym hg hA hfn (by rw [wo_bit hp8 hf8]; exact decide_eq_true hfp) wa
        have := rch_trans hg hA ha fa wq
        rw [q3] at this
        cases this
      · intro hne
        by_cases all : ∀ i, i < 8 → (wit nx n p).testBit i = true → (rch nx (2 ^ p ^^^ 255) n f).testBit i = true
        · exfalso
          apply hne
          refine eq8 (rch_lt hA f hf8) hwl fun i hi => ?_
          cases e : (wit nx n p).testBit i with
          | true => exact all i hi e
          | false =>
            cases e2 : (rch nx (2 ^ p ^^^ 255) n f).testBit i with
            | false => rfl
            | true =>
              exfalso
              have h1 := rch_trans hg hA1 hp hfr (sub f hfn i e2)
              rw [witb i hi, h1, Bool.true_and] at e
              have hip : i = p := Classical.byContradiction fun z => by
                rw [decide_eq_true z] at e
                cases e
              subst hip
              rw [nop f hfn hfp] at e2
              cases e2
        · obtain ⟨q, hq⟩ := Classical.not_forall.mp all
          obtain ⟨hq8, hq2⟩ := Classical.not_imp.mp hq
          obtain ⟨hq3, hq4⟩ := Classical.not_imp.mp hq2
          obtain ⟨q5, q6, q7⟩ := witn q hq3
          refine ⟨f, hfn, hfp, (cnd_iff hn hg hp hfn).mpr ⟨q, q6, rch_trans hg hA1 hfn hpf q7, ?_⟩⟩
          cases e : (rch nx (2 ^ p ^^^ 255) n f).testBit q with
          | false => rfl
          | true => exact absurd e hq4
  cases e1 : pac nx n p n <;> cases e2 : stz nx n p
  · rfl
  · rw [e1, e2] at key; exact absurd (key.mpr rfl) (by decide)
  · rw [e1, e2] at key; exact absurd (key.mp rfl) (by decide)
  · rfl
end
theorem n_an {x y : Nat} (hx : x < 256) (hy : y < 256) : Int32.ofNat x &&& (Int32.ofNat y ^^^ -1) = Int32.ofNat (x &&& (y ^^^ 255)) := by
  have h8 : ∀ z i : Nat, z < 256 → ¬ i < 8 → z.testBit i = false := fun z i hz hi => Nat.testBit_lt_two_pow (Nat.lt_of_lt_of_le hz (show 2 ^ 8 ≤ 2 ^ i from Nat.pow_le_pow_right (by decide) (by omega)))
  have hlt : x &&& (y ^^^ 255) < 2 ^ 8 := Nat.and_lt_two_pow (n := 8) _ (Nat.xor_lt_two_pow (n := 8) hy (by decide))
  apply Int32.toBitVec_inj.mp
  apply BitVec.eq_of_toNat_eq
  show (BitVec.ofNat 32 x &&& (BitVec.ofNat 32 y ^^^ BitVec.allOnes 32)).toNat = (BitVec.ofNat 32 (x &&& (y ^^^ 255))).toNat
  rw [BitVec.toNat_and, BitVec.toNat_xor, BitVec.toNat_ofNat, BitVec.toNat_ofNat, BitVec.toNat_ofNat, BitVec.toNat_allOnes, Nat.mod_eq_of_lt (by omega), Nat.mod_eq_of_lt (by omega), Nat.mod_eq_of_lt (by omega)]
  apply Nat.eq_of_testBit_eq
  intro i
  rw [Nat.testBit_and, Nat.testBit_and, Nat.testBit_xor, Nat.testBit_xor]
  by_cases hi : i < 8
  · rw [m255 hi, Nat.testBit_two_pow_sub_one, decide_eq_true (show i < 32 by omega)]
  · rw [h8 x i hx hi]
    rfl
theorem fs_ln {μ μ1 : hm_M} (f : fs μ μ1) : hm_ln μ1 = hm_ln μ := congrArg (fun z => z.2.2.2) f.1
theorem VJ.fs {μ μ1 : hm_M} {ρ : Nat → Int32} (h : VJ μ 65 ρ) (f : fs μ μ1) : VJ μ1 65 ρ := by
  refine ⟨fun i hi => ?_, ?_, ?_⟩
  · rw [f.2 _ _ (by unfold scr; omega), f.2 _ _ (by unfold scr; omega), f.2 _ _ (by unfold scr; omega)]
    exact h.1 i hi
  · rw [f.2 _ _ (by unfold scr; omega)]; exact h.2.1
  · rw [f.2 _ _ (by unfold scr; omega)]; exact h.2.2
theorem LJ.fs {μ μ1 : hm_M} {law : Option Nat} {L : List pc_K} (h : LJ μ law L) (f : fs μ μ1) : LJ μ1 law L := by
  rcases h with h | ⟨p, C, h1, h2, h3, h4⟩
  · exact Or.inl h
  · refine Or.inr ⟨p, C, h1, h2, h3.same (fun a q1 q2 j => f.2 a j (by unfold scr; omega)) (fs_ln f), ?_⟩
    have epg : pg9 μ1 p = pg9 μ p := funext fun j => by
      unfold pg9
      rw [f.2 _ _ (by unfold scr; omega), f.2 _ _ (by unfold scr; omega)]
    rw [epg]
    exact h4
theorem lawIF_fs {μ μ1 : hm_M} (f : fs μ μ1) : f_X8_lawInForce 65 μ1 = f_X8_lawInForce 65 μ := by
  unfold f_X8_lawInForce f_X8_hasLaw hm_ldR
  rw [f.2 65 8 (by unfold scr; omega), f.2 65 7 (by unfold scr; omega), show μ1.2.2.1 = μ.2.2.1 from congrArg (fun z => z.1) f.1]
def cb (L : List pc_K) (ρ : Nat → Int32) (n p : Nat) : Nat := cbt (fun q => decide (q ≠ p) && s_can L ρ p q) n
theorem cb_gr {L : List pc_K} {ρ : Nat → Int32} {n : Nat} (hn : n ≤ 8) : gr (cb L ρ n) n := by
  refine ⟨hn, fun k _ i hi => ?_, fun a b ha hb => ?_⟩
  · unfold cb at hi
    rw [cbt_bit, Bool.and_eq_true] at hi
    exact of_decide_eq_true hi.1
  · unfold cb
    rw [cbt_bit, cbt_bit, decide_eq_true ha, decide_eq_true hb, s_can_comm L ρ a b]
    by_cases z : a = b
    · rw [z]
    · rw [decide_eq_true (show b ≠ a from fun q => z q.symm), decide_eq_true z]
theorem v_falls {μ : hm_M} {nx : Nat → Nat} {n p : Nat} (hn : n ≤ 8) (hp : p < n) (hx : ∀ k, k < n → μ.1 149 k = Int32.ofNat (nx k) ∧ nx k < 256) : f_X0_fallsApartWithout (Int32.ofNat p) (Int32.ofNat n) μ = some (zb (stz nx n p)) := by
  have hp8 : p < 8 := by omega
  have hA := wo_lt hp8
  have hr : rch nx 255 n p < 256 := rch_lt (by decide) p hp8
  have hw : wit nx n p < 256 := Nat.and_lt_two_pow (n := 8) _ hA
  have hl : lwb (wit nx n p) < 256 := by
    rcases lwb_0 _ hw with ⟨-, z⟩ | ⟨f, z1, z2, -⟩
    · rw [z]; decide
    · rw [z2]; exact p2_lt z1
  have hs : spn nx (2 ^ p ^^^ 255) n n (lwb (wit nx n p)) < 256 := spn_lt hA hl n
  unfold f_X0_fallsApartWithout
  rw [n_shl p (by omega), Option.bind_some, v_spread (m := 2 ^ p) (nx := nx) hn (by decide) (p2_lt hp8) hx al_m1, Option.bind_some, show spn nx 255 n n (2 ^ p) = rch nx 255 n p from rfl, n_an hr (p2_lt hp8), show rch nx 255 n p &&& (2 ^ p ^^^ 255) = wit nx n p from rfl, n_lwb _ hw, Option.bind_some, v_spread (nx := nx) hn hA hl hx (fun x hx => n_an hx (p2_lt hp8)), Option.bind_some]
  unfold stz
  by_cases z : spn nx (2 ^ p ^^^ 255) n n (lwb (wit nx n p)) = wit nx n p
  · rw [if_pos (by rw [z]), decide_eq_false (fun q => q z)]; rfl
  · rw [if_neg (by rw [n_eq (by omega) (by omega)]; exact z), decide_eq_true z]; rfl
theorem v_parts {μ : hm_M} {nx : Nat → Nat} {n p : Nat} (hg : gr nx n) (hp : p < n) (h0 : μ.1 181 54 = Int32.ofNat n) (hx : ∀ k, k < n → μ.1 195 k = Int32.ofNat (nx k) ∧ nx k < 256) : f_X10_parts (Int32.ofNat p) μ = some (zb (pac nx n p n)) := by
  have hn := hg.1
  have hp8 : p < 8 := by omega
  have hA := wo_lt hp8
  unfold f_X10_parts
  refine lo3 (L := f_X10_parts_L4 (Int32.ofNat p) (fun z5_2 μz5 => hm_rz z5_2)) (fun k x y m => x = zb (pac nx n p k) ∧ y = Int32.ofNat k ∧ m = μ) (fun o => o = some (zb (pac nx n p n))) n (fun k x y m hk hI => Or.inl ?_) (fun x y m hI F => ?_) (fu_lt (by omega)) ⟨rfl, rfl, rfl⟩
  · obtain ⟨rfl, rfl, rfl⟩ := hI
    refine ⟨_, _, m, ⟨rfl, rfl, rfl⟩, fun F => ?_⟩
    have ek : Int32.ofNat k + 1 = Int32.ofNat (k + 1) := n_add k 1
    rw [f_X10_parts_L4, v_many h0, Option.bind_some, if_neg (by rw [n_le (by omega) (by omega)]; omega)]
    unfold f_X10_parts_J47 f_X10_parts_J52 f_X10_parts_J53
    rw [ek]
    show _ = f_X10_parts_L4 _ _ F (zb (if k = p then pac nx n p k else pac nx n p k || cnd nx n p k)) _ m
    by_cases z : k = p
    · rw [if_pos (by rw [z]), if_pos z]
    · rw [if_neg (by rw [n_eq (by omega) (by omega)]; exact z), if_neg z]
      cases hb : pac nx n p k with
      | true => rw [if_neg (show ¬ zb true = 0 by decide)]; rfl
      | false =>
        have in2 : ∀ i, (2 ^ k).testBit i = true → i < n := fun i hi => by rw [p2_bit.mp hi]; exact hk
        have c1 := v_comes10 (μ := m) (p := k) (w := 0) hn (show (255 : Nat) < 256 by decide) (by omega) h0 hx al_m1'
        rw [spn_ge hn (by decide) hg.2.1 in2 8 hn] at c1
        have c2 := v_comes10 (μ := m) (p := k) (w := Int32.ofNat (2 ^ p)) hn hA (by omega) h0 hx (fun x hx => n_an hx (p2_lt hp8))
        rw [spn_ge hn hA hg.2.1 in2 8 hn] at c2
        have r1 : rch nx 255 n k < 256 := rch_lt (by decide) k (by omega)
        have r2 : rch nx (2 ^ p ^^^ 255) n k < 256 := rch_lt hA k (by omega)
        have r3 : rch nx 255 n k &&& (rch nx (2 ^ p ^^^ 255) n k ^^^ 255) < 256 := Nat.and_lt_two_pow (n := 8) _ (Nat.xor_lt_two_pow (n := 8) r2 (by decide))
        have r4 : (rch nx 255 n k &&& (rch nx (2 ^ p ^^^ 255) n k ^^^ 255)) &&& (2 ^ p ^^^ 255) < 256 := Nat.and_lt_two_pow (n := 8) _ hA
        rw [if_pos (show zb false = 0 from rfl), show f_X10_comesTo (Int32.ofNat k) 0 m = some (Int32.ofNat (rch nx 255 n k)) from c1, Option.bind_some, n_shl p (by omega), show f_X10_comesTo (Int32.ofNat k) (Int32.ofNat (2 ^ p)) m = some (Int32.ofNat (rch nx (2 ^ p ^^^ 255) n k)) from c2, Option.bind_some, n_an r1 r2, n_an r3 (p2_lt hp8), Bool.false_or]
        unfold cnd
        by_cases q : (rch nx 255 n k &&& (rch nx (2 ^ p ^^^ 255) n k ^^^ 255)) &&& (2 ^ p ^^^ 255) = 0
        · rw [if_pos (by rw [q]; rfl), decide_eq_false (fun z => z q)]; rfl
        · rw [if_neg (by rw [show (0 : Int32) = Int32.ofNat 0 from rfl, n_eq (by omega) (by omega)]; exact q), decide_eq_true q]; rfl
  · obtain ⟨rfl, rfl, rfl⟩ := hI
    rw [f_X10_parts_L4, v_many h0, Option.bind_some, if_pos (by rw [n_le (by omega) (by omega)]; omega), zb_rz]
theorem pu_stays {μ : hm_M} {ν : hm_N} (hL : hm_LL ν μ) (h : PP μ) : ∃ (r : Int32) (μ1 μ2 : hm_M), f_X9_stays μ = some (r, μ1) ∧ f_X10_stays μ1 = some (r, μ2) ∧ PP μ2 := by
  obtain ⟨a1, -⟩ := id h
  obtain ⟨law, L, l1, l2, l3⟩ := lawF a1
  obtain ⟨R1, R2, R3, R4, R5, R6, R7⟩ := id a1.1
  obtain ⟨c1, c2, c3, ⟨c4, c5⟩, c6, c7⟩ := a1.2.2.2
  have hW := ln_109 hL
  have hJ : VJ μ 65 (μ.1 181) := a1.2.2.2.j
  have hn9 := R1.2
  have en := R1.1
  generalize hN : nat (μ.1 181 54) = n at en hn9
  have hn : n ≤ 8 := by omega
  have h0 : μ.1 65 0 = Int32.ofNat n := by rw [c1]; exact en
  have hg : gr (cb L (μ.1 181) n) n := cb_gr hn
  have cbl : ∀ k, cb L (μ.1 181) n k < 256 := fun k => cbt_lt _ n hn
  -- the component
  have s9 : ∃ m1, fs μ m1 ∧ f_X9_stays μ = some (Int32.ofNat (cbt (fun p => stz (cb L (μ.1 181) n) n p) n), m1) := by
    unfold f_X9_stays
    refine lo2 (L := f_X9_stays_L2 _) (fun k y m => y = Int32.ofNat k ∧ fs μ m ∧ ∀ i, i < k → m.1 149 i = Int32.ofNat (cb L (μ.1 181) n i)) (fun o => ∃ m1, fs μ m1 ∧ o = some (Int32.ofNat (cbt (fun p => stz (cb L (μ.1 181) n) n p) n), m1)) n (fun k y m hk hI => Or.inl ?_) (fun y m hI F => ?_) (fu_lt (by omega)) ⟨rfl, fs_refl μ, fun i hi => absurd hi (Nat.not_lt_zero i)⟩
    · obtain ⟨rfl, f, g⟩ := hI
      have e0 : m.1 65 0 = Int32.ofNat n := by rw [f.2 _ _ (by unfold scr; omega)]; exact h0
      obtain ⟨m2, f2, e2⟩ := v_canBits (μ := m) (n := n) (p := k) (v := 65) (by omega) hn e0 a1.1.b (hJ.fs f) (by unfold vO; omega) (l2.fs f) ((congrFun (fs_ln f) 109).trans hW)
      have f3 := fs_trans f (fj_fs f2)
      refine ⟨_, hm_wI m2 149 k (Int32.ofNat (cb L (μ.1 181) n k)), ⟨rfl, fs_wI f3 (by unfold scr; omega) _, fun i hi => ?_⟩, fun F => ?_⟩
      · by_cases z : i = k
        · subst z; rw [wI_at]
        · rw [wI_ne (by omega), f2.2 _ _ (by omega) (by omega) (by omega)]; exact g i (by omega)
      · rw [f_X9_stays_L2, e0, if_neg (by rw [n_le (by omega) (by omega)]; omega), lawIF_fs f, l1, Option.bind_some, e2, b2_some, sd_n (by omega) (by decide), Option.bind_some, show Int32.ofNat k + 1 = Int32.ofNat (k + 1) from n_add k 1]
        rfl
    · obtain ⟨rfl, f, g⟩ := hI
      have e0 : m.1 65 0 = Int32.ofNat n := by rw [f.2 _ _ (by unfold scr; omega)]; exact h0
      rw [f_X9_stays_L2, e0, if_pos (by rw [n_le (by omega) (by omega)]; omega)]
      refine lo3 (L := f_X9_stays_L51 (fun z9_1 μz9 => some (z9_1, μz9))) (fun k x y m' => x = Int32.ofNat (cbt (fun p => stz (cb L (μ.1 181) n) n p) k) ∧ y = Int32.ofNat k ∧ m' = m) (fun o => ∃ m1, fs μ m1 ∧ o = some (Int32.ofNat (cbt (fun p => stz (cb L (μ.1 181) n) n p) n), m1)) n (fun k x y m' hk hI => Or.inl ?_) (fun x y m' hI F => ?_) (fu_lt (by omega)) ⟨rfl, rfl, rfl⟩
      · obtain ⟨rfl, rfl, rfl⟩ := hI
        refine ⟨_, _, m', ⟨rfl, rfl, rfl⟩, fun F => ?_⟩
        have hlt := cbt_lt (fun p => stz (cb L (μ.1 181) n) n p) k (by omega)
        rw [f_X9_stays_L51, e0, if_neg (by rw [n_le (by omega) (by omega)]; omega), v_falls hn hk (fun i hi => ⟨g i hi, cbl i⟩), Option.bind_some]
        unfold f_X9_stays_J86
        rw [show Int32.ofNat k + 1 = Int32.ofNat (k + 1) from n_add k 1]
        conv => rhs; rw [cbt]
        cases stz (cb L (μ.1 181) n) n k with
        | false => rw [if_pos (show zb false = 0 from rfl), if_neg (by decide)]
        | true => rw [if_neg (show ¬ zb true = 0 by decide), if_pos rfl, Option.bind_some, n_shl k (by omega), n_or hlt (p2_lt (by omega))]
      · obtain ⟨rfl, rfl, rfl⟩ := hI
        refine ⟨m', f, ?_⟩
        rw [f_X9_stays_L51, e0, if_pos (by rw [n_le (by omega) (by omega)]; omega)]
  obtain ⟨m1, f1, e1⟩ := s9
  have k1 := fs_181 f1
  have s10 : ∃ m2, fs m1 m2 ∧ f_X10_stays m1 = some (Int32.ofNat (cbt (fun p => pac (cb L (μ.1 181) n) n p n) n), m2) := by
    unfold f_X10_stays
    refine lo2 (L := f_X10_stays_L2 _) (fun k y m => y = Int32.ofNat k ∧ fs m1 m ∧ ∀ i, i < k → m.1 195 i = Int32.ofNat (cb L (μ.1 181) n i)) (fun o => ∃ m2, fs m1 m2 ∧ o = some (Int32.ofNat (cbt (fun p => pac (cb L (μ.1 181) n) n p n) n), m2)) n (fun k y m hk hI => Or.inl ?_) (fun y m hI F => ?_) (fu_lt (by omega)) ⟨rfl, fs_refl m1, fun i hi => absurd hi (Nat.not_lt_zero i)⟩
    · obtain ⟨rfl, f, g⟩ := hI
      have km : m.1 181 = μ.1 181 := (fs_181 f).trans k1
      obtain ⟨m2, f2, e2⟩ := v_whoCan (μ := m) (n := n) (p := k) (L := L) (by omega) hn (by rw [km]; exact en) (by rw [km]; exact a1.1.b) (by rw [km]; exact l3)
      rw [km] at e2
      have f3 := fs_trans f (fq_fs f2)
      refine ⟨_, hm_wI m2 195 k (Int32.ofNat (cb L (μ.1 181) n k)), ⟨rfl, fs_wI f3 (by unfold scr; omega) _, fun i hi => ?_⟩, fun F => ?_⟩
      · by_cases z : i = k
        · subst z; rw [wI_at]
        · rw [wI_ne (by omega), f2.2 _ _ (by omega) (by omega)]; exact g i (by omega)
      · rw [f_X10_stays_L2, v_many (by rw [km]; exact en), Option.bind_some, if_neg (by rw [n_le (by omega) (by omega)]; omega), e2, b2_some, sd_n (by omega) (by decide), Option.bind_some, show Int32.ofNat k + 1 = Int32.ofNat (k + 1) from n_add k 1]
        rfl
    · obtain ⟨rfl, f, g⟩ := hI
      have km : m.1 181 = μ.1 181 := (fs_181 f).trans k1
      rw [f_X10_stays_L2, v_many (by rw [km]; exact en), Option.bind_some, if_pos (by rw [n_le (by omega) (by omega)]; omega)]
      refine lo3 (L := f_X10_stays_L31 (fun z9_1 μz9 => some (z9_1, μz9))) (fun k x y m' => x = Int32.ofNat (cbt (fun p => pac (cb L (μ.1 181) n) n p n) k) ∧ y = Int32.ofNat k ∧ m' = m) (fun o => ∃ m2, fs m1 m2 ∧ o = some (Int32.ofNat (cbt (fun p => pac (cb L (μ.1 181) n) n p n) n), m2)) n (fun k x y m' hk hI => Or.inl ?_) (fun x y m' hI F => ?_) (fu_lt (by omega)) ⟨rfl, rfl, rfl⟩
      · obtain ⟨rfl, rfl, rfl⟩ := hI
        refine ⟨_, _, m', ⟨rfl, rfl, rfl⟩, fun F => ?_⟩
        have hlt := cbt_lt (fun p => pac (cb L (μ.1 181) n) n p n) k (by omega)
        rw [f_X10_stays_L31, v_many (by rw [km]; exact en), Option.bind_some, if_neg (by rw [n_le (by omega) (by omega)]; omega), v_parts hg hk (by rw [km]; exact en) (fun i hi => ⟨g i hi, cbl i⟩), Option.bind_some]
        unfold f_X10_stays_J55
        rw [show Int32.ofNat k + 1 = Int32.ofNat (k + 1) from n_add k 1]
        conv => rhs; rw [cbt]
        cases pac (cb L (μ.1 181) n) n k n with
        | false => rw [if_pos (show zb false = 0 from rfl), if_neg (by decide), show (0 : Int32) = Int32.ofNat 0 from rfl, n_or hlt (by decide), Nat.or_zero]
        | true => rw [if_neg (show ¬ zb true = 0 by decide), if_pos rfl, n_shl k (by omega), n_or hlt (p2_lt (by omega))]
      · obtain ⟨rfl, rfl, rfl⟩ := hI
        refine ⟨m', f, ?_⟩
        rw [f_X10_stays_L31, v_many (by rw [km]; exact en), Option.bind_some, if_pos (by rw [n_le (by omega) (by omega)]; omega)]
  obtain ⟨m2, f2, e2⟩ := s10
  refine ⟨_, m1, m2, e1, ?_, fs_PP h (fs_trans f1 f2)⟩
  rw [e2, cbt_congr fun p hp => stay_eq hg hp]
end
