section
/-! Most kept; two rings. -/
variable {m : hm_M} {n : Nat} {tb : tbl} {c c' : Nat → Nat → Nat} {t t' : Nat → Nat → Nat}
theorem EQ_TB (hn : n ≤ 8) (h : ∀ S l, 1 ≤ S → S < 2 ^ n → l < n → EQt c n t S l) : TB false (cc8 c) n t := by
  intro S l hS hl hb
  have h1 : 1 ≤ S := by
    rcases Nat.eq_zero_or_pos S with e | e
    · rw [e, Nat.zero_testBit] at hb; cases hb
    · exact e
  obtain ⟨a1, a2, a3⟩ := (h S l h1 hS hl).2 hb
  refine ⟨a1, a2, fun z => ?_⟩
  rw [a3 z]
  refine mn_cg fun p hp => ?_
  rw [show cc8 c p l = c p l from if_pos ⟨by omega, by omega⟩]
theorem TB_un (hn : n ≤ 8) (h : TB false (cc8 c) n t) (h' : TB false (cc8 c) n t') : ∀ S, S < 2 ^ n → ∀ l, l < n → S.testBit l = true → t S l = t' S l := by
  intro S
  induction S using Nat.strongRecOn with
  | _ S ih =>
    intro hS l hl hb
    obtain ⟨a1, a2, a3⟩ := h S l hS hl hb
    obtain ⟨b1, b2, b3⟩ := h' S l hS hl hb
    by_cases z : S = 2 ^ l
    · rw [a1 z, b1 z]
    · by_cases y : lowB S l
      · rw [a2 z y, b2 z y]
      · rw [a3 y, b3 y]
        have hx := xor_lt hb
        refine mn_cg fun p hp => ?_
        by_cases q : p ≠ l ∧ S.testBit p = true
        · rw [if_pos q, if_pos q, ih _ hx (by omega) p hp (by rw [bit_xp, q.2]; simp [q.1])]
        · rw [if_neg q, if_neg q]
theorem TB_bd (hn : n ≤ 8) (hc : c9 c) (h : TB false (cc8 c) n t) : ∀ S, S < 2 ^ n → ∀ l, l < n → S.testBit l = true → t S l < 1000000 → t S l ≤ 9 * S := by
  have h256 := p256 hn
  intro S
  induction S using Nat.strongRecOn with
  | _ S ih =>
    intro hS l hl hb hlt
    obtain ⟨a1, a2, a3⟩ := h S l hS hl hb
    by_cases z : S = 2 ^ l
    · rw [a1 z]; omega
    · by_cases y : lowB S l
      · rw [a2 z y] at hlt; omega
      · rw [a3 y] at hlt ⊢
        have hx := xor_lt hb
        obtain ⟨p, hp, e⟩ := mn_ex hlt
        rw [← e] at hlt ⊢
        by_cases q : p ≠ l ∧ S.testBit p = true
        · rw [if_pos q] at hlt ⊢
          have hcc : cc8 c p l = c p l := if_pos ⟨by omega, by omega⟩
          rw [hcc] at hlt ⊢
          have h9 := hc p l (by omega) (by omega)
          have e1 : rop false (t (S ^^^ 2 ^ l) p) (c p l) = min 1000000 (t (S ^^^ 2 ^ l) p + c p l) := rfl
          rw [e1] at hlt ⊢
          have := ih _ hx (by omega) p hp (by rw [bit_xp, q.2]; simp [q.1]) (by omega)
          omega
        · rw [if_neg q] at hlt; omega
theorem TB_fi (hn : n ≤ 8) (hc' : c9 c') (hcc : ∀ a b, a < 8 → b < 8 → c a b < 1000000 → c' a b < 1000000) (h : TB false (cc8 c) n t) (h' : TB false (cc8 c') n t') : ∀ S, S < 2 ^ n → ∀ l, l < n → S.testBit l = true → t S l < 1000000 → t' S l < 1000000 := by
  have h256 := p256 hn
  intro S
  induction S using Nat.strongRecOn with
  | _ S ih =>
    intro hS l hl hb hlt
    obtain ⟨a1, a2, a3⟩ := h S l hS hl hb
    obtain ⟨b1, b2, b3⟩ := h' S l hS hl hb
    by_cases z : S = 2 ^ l
    · rw [b1 z]; omega
    · by_cases y : lowB S l
      · rw [a2 z y] at hlt; omega
      · rw [a3 y] at hlt
        rw [b3 y]
        have hx := xor_lt hb
        obtain ⟨p, hp, e⟩ := mn_ex hlt
        rw [← e] at hlt
        by_cases q : p ≠ l ∧ S.testBit p = true
        · rw [if_pos q] at hlt
          have hp8 : p < 8 ∧ l < 8 := ⟨by omega, by omega⟩
          rw [show cc8 c p l = c p l from if_pos hp8, show rop false (t (S ^^^ 2 ^ l) p) (c p l) = min 1000000 (t (S ^^^ 2 ^ l) p + c p l) from rfl] at hlt
          have hbp : (S ^^^ 2 ^ l).testBit p = true := by rw [bit_xp, q.2]; simp [q.1]
          have i1 := ih _ hx (by omega) p hp hbp (by omega)
          have i2 := TB_bd hn hc' h' _ (Nat.lt_trans hx hS) p hp hbp i1
          have i3 := hcc p l hp8.1 hp8.2 (by omega)
          have i4 := hc' p l hp8.1 hp8.2
          have m1 := mn_le (f := fun p => if p ≠ l ∧ S.testBit p = true then rop false (t' (S ^^^ 2 ^ l) p) (cc8 c' p l) else 1000000) hp
          simp only [if_pos q] at m1
          rw [show cc8 c' p l = c' p l from if_pos hp8, show rop false (t' (S ^^^ 2 ^ l) p) (c' p l) = min 1000000 (t' (S ^^^ 2 ^ l) p + c' p l) from rfl] at m1
          omega
        · rw [if_neg q] at hlt; omega
theorem rdr_mn {S : Nat} (h3 : 3 ≤ pop S) : ∀ P, rdr c n t S P = mn (fun l => rop false (t S l) (if l = lwt S then 1000000 else c l (lwt S))) P
  | 0 => rfl
  | P + 1 => by
    have hI := mn_I (fun l => rop false (t S l) (if l = lwt S then 1000000 else c l (lwt S))) P
    show (if 3 ≤ pop S then min (rdr c n t S P) (t S P + (if P = lwt S then 1000000 else c P (lwt S))) else 1000000) = min (mn (fun l => rop false (t S l) (if l = lwt S then 1000000 else c l (lwt S))) P) (rop false (t S P) (if P = lwt S then 1000000 else c P (lwt S)))
    rw [if_pos h3, rdr_mn h3 P]
    show _ = min _ (min 1000000 (t S P + (if P = lwt S then 1000000 else c P (lwt S))))
    omega
theorem rdr_no {S : Nat} (h3 : ¬ 3 ≤ pop S) : ∀ P, rdr c n t S P = 1000000
  | 0 => rfl
  | P + 1 => if_neg h3
/-- both tables tell the same of rounds -/
theorem rd_eq {S : Nat} (hn : n ≤ 8) (hS : S < 2 ^ n) (hS1 : 1 ≤ S) (hc : c9 c) (ht : ∀ l, l < n → t' S l = t S l ∧ t S l ≤ 1000000) (ho : ∀ l, l < n → S.testBit l = false → t S l = 1000000) : rdc false c n t' S = rdr c n t S n := by
  have h256 := p256 hn
  unfold rdc
  by_cases h3 : 3 ≤ pop S
  · rw [if_pos h3, rdr_mn h3]
    obtain ⟨p1, p2⟩ := lwt_p S (by omega) hS1
    have l8 : lwt S < 8 := by
      have key : ∀ S, S < 256 → lwt S < 8 := by decide +kernel
      exact key S (by omega)
    refine mn_cg fun l hl => ?_
    obtain ⟨t1, t2⟩ := ht l hl
    by_cases z : lwt S < l
    · rw [if_pos z, if_neg (by omega), t1]
    · rw [if_neg z]
      by_cases y : l = lwt S
      · rw [if_pos y, rop_cm, rop_I t2]
      · rw [if_neg y, ho l hl (p2 l (by omega)), rop_I (by have := hc l (lwt S) (by omega) l8; omega)]
  · rw [if_neg h3, rdr_no h3]
theorem rdc_fi {S : Nat} (hn : n ≤ 8) (hS : S < 2 ^ n) (hS1 : 1 ≤ S) (hc' : c9 c') (hcc : ∀ a b, a < 8 → b < 8 → c a b < 1000000 → c' a b < 1000000) (h : TB false (cc8 c) n t) (h' : TB false (cc8 c') n t') (ho : ∀ l, l < n → S.testBit l = false → t S l = 1000000) (hI : ∀ l, l < n → t S l ≤ 1000000) (hlt : rdc false c n t S < 1000000) : rdc false c' n t' S < 1000000 := by
  have h256 := p256 hn
  unfold rdc at hlt ⊢
  by_cases h3 : 3 ≤ pop S
  · rw [if_pos h3] at hlt ⊢
    obtain ⟨l, hl, e⟩ := mn_ex hlt
    have l8 : lwt S < 8 := by
      have key : ∀ S, S < 256 → lwt S < 8 := by decide +kernel
      exact key S (by omega)
    rw [← e] at hlt
    by_cases z : lwt S < l
    · rw [if_pos z, show rop false (t S l) (c l (lwt S)) = min 1000000 (t S l + c l (lwt S)) from rfl] at hlt
      have hb : S.testBit l = true := by
        cases q : S.testBit l
        · rw [ho l hl q] at hlt; omega
        · rfl
      have i1 := TB_fi hn hc' hcc h h' S hS l hl hb (by omega)
      have i2 := TB_bd hn hc' h' S hS l hl hb i1
      have i3 := hcc l (lwt S) (by omega) l8 (by omega)
      have i4 := hc' l (lwt S) (by omega) l8
      have m1 := mn_le (f := fun l => if lwt S < l then rop false (t' S l) (c' l (lwt S)) else 1000000) hl
      simp only [if_pos z] at m1
      rw [show rop false (t' S l) (c' l (lwt S)) = min 1000000 (t' S l + c' l (lwt S)) from rfl] at m1
      omega
    · rw [if_neg z] at hlt; omega
  · rw [if_neg h3] at hlt; omega
theorem rdc_I (w : Bool) (S : Nat) : rdc w c n t S ≤ 1000000 := by
  unfold rdc
  split
  · exact mn_I _ _
  · omega
theorem cm_n2 {x : Nat} (h : x ≤ 1000000) : (cm x = -1) = (x = 1000000) := by
  unfold cm
  by_cases z : x = 1000000
  · rw [if_pos z]; simp [z]
  · rw [if_neg z, i_eq, n_toInt (by omega)]
    simp only [z, eq_iff_iff, iff_false]
    show ¬ ((x : Nat) : Int) = -1
    omega
def kpt (f : Nat → Bool) : Nat → Nat
  | 0 => 0
  | k + 1 => if f (k + 1) = true ∧ pop (kpt f k) < pop (k + 1) then k + 1 else kpt f k
theorem kpt_le (f : Nat → Bool) : ∀ k, kpt f k ≤ k
  | 0 => Nat.le_refl _
  | k + 1 => by
    have := kpt_le f k
    unfold kpt
    split <;> omega
theorem kpt_cg {f g : Nat → Bool} : ∀ {k : Nat}, (∀ x, 1 ≤ x → x ≤ k → f x = g x) → kpt f k = kpt g k
  | 0, _ => rfl
  | k + 1, h => by
    unfold kpt
    rw [kpt_cg (k := k) fun x h1 h2 => h x h1 (by omega), h (k + 1) (by omega) (by omega)]
theorem v_most (hn : n ≤ 8) (h5 : m.1 145 5 = Int32.ofNat n) (h6 : m.1 145 6 = zb false) (hC : CT m n c) (hc : c9 c) (hM : MT m n tb) : f_X0_mostKept m = some (if kpt (fun S => decide (rdc false c n (t1 tb) S < 1000000)) (2 ^ n - 1) = 0 then -1 else Int32.ofNat (kpt (fun S => decide (rdc false c n (t1 tb) S < 1000000)) (2 ^ n - 1))) := by
  have h256 := p256 hn
  have hp1 : 1 ≤ 2 ^ n := Nat.one_le_two_pow
  unfold f_X0_mostKept
  generalize hf : (fun S => decide (rdc false c n (t1 tb) S < 1000000)) = f
  refine lo4 (L := f_X0_mostKept_L6 (fun z5_1 μz5 => some z5_1)) (fun k y1 y2 y3 m1 => y1 = (if kpt f k = 0 then -1 else Int32.ofNat (kpt f k)) ∧ y2 = Int32.ofNat (pop (kpt f k)) ∧ y3 = Int32.ofNat (1 + k) ∧ m1 = m) (fun o => o = _) (2 ^ n - 1) (fun k y1 y2 y3 m1 hk hI => Or.inl ?_) (fun y1 y2 y3 m1 hI F => ?_) (fu_lt (by omega)) ⟨rfl, (by show (0 : Int32) = Int32.ofNat (pop 0); decide), rfl, rfl⟩
  · obtain ⟨rfl, rfl, rfl, rfl⟩ := hI
    have hkl := kpt_le f k
    have pa := pop_le (kpt f k) (by omega)
    have pb := pop_le (1 + k) (by omega)
    have es : kpt f (k + 1) = if f (k + 1) = true ∧ pop (kpt f k) < pop (k + 1) then k + 1 else kpt f k := rfl
    have er := v_lr (S := 1 + k) hn h5 h6 hC hc hM (by omega)
    have hrI := rdc_I (c := c) (n := n) (t := t1 tb) false (1 + k)
    have ef : f (k + 1) = decide (rdc false c n (t1 tb) (1 + k) < 1000000) := by rw [← hf, Nat.add_comm 1 k]
    refine ⟨_, _, _, m1, ⟨rfl, rfl, rfl, rfl⟩, fun F => ?_⟩
    rw [f_X0_mostKept_L6, h5, n_shl n (by omega), if_neg (by rw [n_le (by omega) (by omega)]; omega), v_popJ (1 + k) (by omega), Option.bind_some]
    unfold f_X0_mostKept_J40
    rw [show Int32.ofNat (1 + k) + 1 = Int32.ofNat (1 + (k + 1)) from n_add _ 1, es, Nat.add_comm k 1]
    rw [Nat.add_comm k 1] at ef
    by_cases z : pop (kpt f k) < pop (1 + k)
    · rw [if_neg (by rw [n_le (by omega) (by omega)]; omega), er, Option.bind_some]
      by_cases y : rdc false c n (t1 tb) (1 + k) = 1000000
      · rw [if_pos (by rw [cm_n2 hrI]; exact y), if_neg (show ¬ (f (1 + k) = true ∧ pop (kpt f k) < pop (1 + k)) by rw [ef, decide_eq_false (by omega)]; simp)]
      · rw [if_neg (by rw [cm_n2 hrI]; exact y), Option.bind_some, if_pos (show f (1 + k) = true ∧ pop (kpt f k) < pop (1 + k) from ⟨by rw [ef]; exact decide_eq_true (by omega), z⟩), if_neg (show ¬ 1 + k = 0 by omega)]
    · rw [if_pos (by rw [n_le (by omega) (by omega)]; omega), if_neg (show ¬ (f (1 + k) = true ∧ pop (kpt f k) < pop (1 + k)) from fun q => z q.2)]
  · obtain ⟨rfl, rfl, rfl, rfl⟩ := hI
    rw [f_X0_mostKept_L6, h5, n_shl n (by omega), if_pos (by rw [n_le (by omega) (by omega)]; omega)]
end
