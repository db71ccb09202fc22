section
/-! Bits of a long. -/
def J64 (a : Nat) : Int64 := Int64.ofBitVec (BitVec.ofNat 64 a)
theorem J_b (a : Nat) : (J64 a).toBitVec = BitVec.ofNat 64 a := rfl
theorem J_and {a b : Nat} (ha : a < 2 ^ 64) (hb : b < 2 ^ 64) : J64 a &&& J64 b = J64 (a &&& b) := by
  apply Int64.toBitVec_inj.mp
  rw [Int64.toBitVec_and, J_b, J_b, J_b]
  apply BitVec.eq_of_toNat_eq
  rw [BitVec.toNat_and, BitVec.toNat_ofNat, BitVec.toNat_ofNat, BitVec.toNat_ofNat, Nat.mod_eq_of_lt ha, Nat.mod_eq_of_lt hb, Nat.mod_eq_of_lt (Nat.lt_of_le_of_lt Nat.and_le_left ha)]
theorem J_or {a b : Nat} (ha : a < 2 ^ 64) (hb : b < 2 ^ 64) : J64 a ||| J64 b = J64 (a ||| b) := by
  apply Int64.toBitVec_inj.mp
  rw [Int64.toBitVec_or, J_b, J_b, J_b]
  apply BitVec.eq_of_toNat_eq
  rw [BitVec.toNat_or, BitVec.toNat_ofNat, BitVec.toNat_ofNat, BitVec.toNat_ofNat, Nat.mod_eq_of_lt ha, Nat.mod_eq_of_lt hb, Nat.mod_eq_of_lt (Nat.or_lt_two_pow ha hb)]
theorem J_add (a b : Nat) : J64 a + J64 b = J64 (a + b) := by
  apply Int64.toBitVec_inj.mp
  rw [Int64.toBitVec_add, J_b, J_b, J_b, BitVec.ofNat_add]
theorem J_sub {a b : Nat} (h : b ≤ a) : J64 a - J64 b = J64 (a - b) := by
  apply Int64.toBitVec_inj.mp
  rw [Int64.toBitVec_sub, J_b, J_b, J_b]
  apply BitVec.eq_of_toNat_eq
  rw [BitVec.toNat_sub, BitVec.toNat_ofNat, BitVec.toNat_ofNat, BitVec.toNat_ofNat]
  omega
theorem J_shr {a : Nat} (ha : a < 2 ^ 64) {k : Nat} (hk : k < 64) : ((J64 a).toUInt64 >>> (UInt64.ofNat k)).toInt64 = J64 (a / 2 ^ k) := by
  apply Int64.toBitVec_inj.mp
  rw [UInt64.toBitVec_toInt64, J_b]
  apply BitVec.eq_of_toNat_eq
  have e : ((J64 a).toUInt64 >>> (UInt64.ofNat k)).toBitVec.toNat = ((J64 a).toUInt64 >>> (UInt64.ofNat k)).toNat := rfl
  rw [e, UInt64.toNat_shiftRight, BitVec.toNat_ofNat]
  have e2 : (J64 a).toUInt64.toNat = a := by
    show (J64 a).toUInt64.toBitVec.toNat = a
    rw [Int64.toBitVec_toUInt64, J_b, BitVec.toNat_ofNat, Nat.mod_eq_of_lt ha]
  have e3 : (UInt64.ofNat k).toNat % 64 = k := by
    rw [UInt64.toNat_ofNat']
    omega
  rw [e2, e3, Nat.shiftRight_eq_div_pow, Nat.mod_eq_of_lt (Nat.lt_of_le_of_lt (Nat.div_le_self _ _) ha)]
theorem J_127 {a : Nat} (ha : a < 2 ^ 64) : (J64 a).toInt32 &&& (127 : Int32) = Int32.ofNat (a % 128) := by
  apply Int32.toBitVec_inj.mp
  rw [Int32.toBitVec_and, Int64.toBitVec_toInt32, J_b]
  apply BitVec.eq_of_toNat_eq
  have e : (BitVec.signExtend 32 (BitVec.ofNat 64 a)).toNat = a % 2 ^ 32 := by
    rw [BitVec.signExtend_eq_setWidth_of_le _ (by decide), BitVec.toNat_setWidth, BitVec.toNat_ofNat]
    omega
  have e2 : (127 : Int32).toBitVec.toNat = 2 ^ 7 - 1 := rfl
  have e3 : (Int32.ofNat (a % 128)).toBitVec.toNat = a % 128 := by
    show (BitVec.ofNat 32 (a % 128)).toNat = _
    rw [BitVec.toNat_ofNat]
    omega
  rw [BitVec.toNat_and, e, e2, e3, Nat.and_two_pow_sub_one_eq_mod]
  omega
def mk8 (c : Nat) : Nat → Nat
  | 0 => 0
  | k + 1 => c + 256 * mk8 c k
def mp8 (f : Nat → Nat) : Nat → Nat → Nat
  | 0, _ => 0
  | k + 1, v => f (v % 256) + 256 * mp8 f k (v / 256)
theorem and8 {a b c d : Nat} (ha : a < 256) (hc : c < 256) : (a + 256 * b) &&& (c + 256 * d) = (a &&& c) + 256 * (b &&& d) := by
  have hac : a &&& c < 2 ^ 8 := Nat.lt_of_le_of_lt Nat.and_le_left ha
  apply Nat.eq_of_testBit_eq
  intro i
  rw [Nat.testBit_and, show a + 256 * b = 2 ^ 8 * b + a by omega, show c + 256 * d = 2 ^ 8 * d + c by omega, show (a &&& c) + 256 * (b &&& d) = 2 ^ 8 * (b &&& d) + (a &&& c) by omega, Nat.testBit_two_pow_mul_add _ ha, Nat.testBit_two_pow_mul_add _ hc, Nat.testBit_two_pow_mul_add _ hac]
  by_cases z : i < 8
  · rw [if_pos z, if_pos z, if_pos z, Nat.testBit_and]
  · rw [if_neg z, if_neg z, if_neg z, Nat.testBit_and]
def z1 (b : Nat) : Nat := b - ((b / 2) &&& 85)
def z2 (b : Nat) : Nat := (b &&& 51) + ((b / 4) &&& 51)
def z3 (b : Nat) : Nat := (b + b / 16) &&& 15
theorem z1_p : ∀ b, b < 256 → z1 b < 256 ∧ ((b / 2) &&& 85) ≤ b ∧ ((b / 2 + 128) &&& 85) = ((b / 2) &&& 85) := by decide +kernel
theorem z2_p : ∀ b, b < 256 → z2 b < 256 ∧ ((b / 4 + 64) &&& 51) = ((b / 4) &&& 51) ∧ ((b / 4 + 128) &&& 51) = ((b / 4) &&& 51) ∧ ((b / 4 + 192) &&& 51) = ((b / 4) &&& 51) := by decide +kernel
theorem z3_p : ∀ b, b < 256 → z3 (z2 (z1 b)) = pop b ∧ z2 (z1 b) % 16 ≤ 4 ∧ z2 (z1 b) / 16 ≤ 4 := by decide +kernel
theorem z3_q : ∀ b, b < 69 → ∀ x, x < 5 → ((b + b / 16 + 16 * x) &&& 15) = z3 b := by decide +kernel
theorem S1 : ∀ (k v : Nat), v < 256 ^ k → ((v / 2) &&& mk8 85 k) ≤ v ∧ v - ((v / 2) &&& mk8 85 k) = mp8 z1 k v
  | 0, v, h => by
    have : v = 0 := by simpa using h
    subst this
    exact ⟨by decide, by decide⟩
  | k + 1, v, h => by
    rw [Nat.pow_succ] at h
    have hb : v % 256 < 256 := Nat.mod_lt _ (by decide)
    obtain ⟨i1, i2⟩ := S1 k (v / 256) (by omega)
    obtain ⟨p1, p2, p3⟩ := z1_p _ hb
    have e : (v / 2) &&& mk8 85 (k + 1) = ((v % 256 / 2) &&& 85) + 256 * ((v / 256 / 2) &&& mk8 85 k) := by
      show (v / 2) &&& (85 + 256 * mk8 85 k) = _
      rcases Nat.mod_two_eq_zero_or_one (v / 256) with q | q
      · rw [show v / 2 = v % 256 / 2 + 256 * (v / 256 / 2) by omega, and8 (by omega) (by decide)]
      · rw [show v / 2 = (v % 256 / 2 + 128) + 256 * (v / 256 / 2) by omega, and8 (by omega) (by decide), p3]
    rw [e]
    show _ ∧ _ = z1 (v % 256) + 256 * mp8 z1 k (v / 256)
    rw [← i2]
    unfold z1
    omega
theorem S2 : ∀ (k v : Nat), v < 256 ^ k → (v &&& mk8 51 k) + ((v / 4) &&& mk8 51 k) = mp8 z2 k v
  | 0, v, h => by
    have : v = 0 := by simpa using h
    subst this
    decide
  | k + 1, v, h => by
    rw [Nat.pow_succ] at h
    have hb : v % 256 < 256 := Nat.mod_lt _ (by decide)
    have ih := S2 k (v / 256) (by omega)
    obtain ⟨p1, p2, p3, p4⟩ := z2_p _ hb
    have e1 : v &&& mk8 51 (k + 1) = ((v % 256) &&& 51) + 256 * ((v / 256) &&& mk8 51 k) := by
      show v &&& (51 + 256 * mk8 51 k) = _
      have := and8 (a := v % 256) (b := v / 256) (c := 51) (d := mk8 51 k) hb (by decide)
      rw [← this]
      congr 1
      omega
    have e2 : (v / 4) &&& mk8 51 (k + 1) = ((v % 256 / 4) &&& 51) + 256 * ((v / 256 / 4) &&& mk8 51 k) := by
      show (v / 4) &&& (51 + 256 * mk8 51 k) = _
      have q4 : v / 256 % 4 = 0 ∨ v / 256 % 4 = 1 ∨ v / 256 % 4 = 2 ∨ v / 256 % 4 = 3 := by omega
      rcases q4 with q | q | q | q
      · rw [show v / 4 = v % 256 / 4 + 256 * (v / 256 / 4) by omega, and8 (by omega) (by decide)]
      · rw [show v / 4 = (v % 256 / 4 + 64) + 256 * (v / 256 / 4) by omega, and8 (by omega) (by decide), p2]
      · rw [show v / 4 = (v % 256 / 4 + 128) + 256 * (v / 256 / 4) by omega, and8 (by omega) (by decide), p3]
      · rw [show v / 4 = (v % 256 / 4 + 192) + 256 * (v / 256 / 4) by omega, and8 (by omega) (by decide), p4]
    rw [e1, e2]
    show _ = z2 (v % 256) + 256 * mp8 z2 k (v / 256)
    rw [← ih]
    unfold z2
    omega
/-- all bytes of small halves -/
def hal : Nat → Nat → Prop
  | 0, _ => True
  | k + 1, v => (v % 16 ≤ 4 ∧ v % 256 / 16 ≤ 4) ∧ hal k (v / 256)
theorem S3 : ∀ (k v : Nat), v < 256 ^ k → hal k v → ((v + v / 16) &&& mk8 15 k) = mp8 z3 k v ∧ v % 16 ≤ 4
  | 0, v, h, _ => by
    have : v = 0 := by simpa using h
    subst this
    decide
  | k + 1, v, h, hh => by
    rw [Nat.pow_succ] at h
    obtain ⟨i1, i2⟩ := S3 k (v / 256) (by omega) hh.2
    refine ⟨?_, hh.1.1⟩
    show (v + v / 16) &&& (15 + 256 * mk8 15 k) = z3 (v % 256) + 256 * mp8 z3 k (v / 256)
    have h1 := hh.1
    rw [show v + v / 16 = (v % 256 + v % 256 / 16 + 16 * (v / 256 % 16)) + 256 * (v / 256 + v / 256 / 16) by omega, and8 (by omega) (by decide), i1, z3_q (v % 256) (by omega) (v / 256 % 16) (by omega)]
theorem mp8_lt {f : Nat → Nat} (hf : ∀ b, b < 256 → f b < 256) : ∀ k v, mp8 f k v < 256 ^ k
  | 0, v => by show 0 < 1; decide
  | k + 1, v => by
    have h1 := mp8_lt hf k (v / 256)
    have h2 := hf (v % 256) (Nat.mod_lt _ (by decide))
    rw [Nat.pow_succ]
    show f (v % 256) + 256 * mp8 f k (v / 256) < _
    omega
theorem mp8_c {f g : Nat → Nat} (hf : ∀ b, b < 256 → f b < 256) : ∀ k v, mp8 g k (mp8 f k v) = mp8 (fun b => g (f b)) k v
  | 0, v => rfl
  | k + 1, v => by
    have h2 := hf (v % 256) (Nat.mod_lt _ (by decide))
    show g ((f (v % 256) + 256 * mp8 f k (v / 256)) % 256) + 256 * mp8 g k ((f (v % 256) + 256 * mp8 f k (v / 256)) / 256) = g (f (v % 256)) + 256 * mp8 (fun b => g (f b)) k (v / 256)
    rw [show (f (v % 256) + 256 * mp8 f k (v / 256)) % 256 = f (v % 256) by omega, show (f (v % 256) + 256 * mp8 f k (v / 256)) / 256 = mp8 f k (v / 256) by omega, mp8_c hf k]
theorem mp8_cg {f g : Nat → Nat} (h : ∀ b, b < 256 → f b = g b) : ∀ k v, mp8 f k v = mp8 g k v
  | 0, v => rfl
  | k + 1, v => by
    show f (v % 256) + 256 * mp8 f k (v / 256) = g (v % 256) + 256 * mp8 g k (v / 256)
    rw [h _ (Nat.mod_lt _ (by decide)), mp8_cg h k]
theorem hal_z : ∀ k v, hal k (mp8 (fun b => z2 (z1 b)) k v)
  | 0, v => trivial
  | k + 1, v => by
    have hb : v % 256 < 256 := Nat.mod_lt _ (by decide)
    obtain ⟨-, q1, q2⟩ := z3_p _ hb
    have hz : z2 (z1 (v % 256)) < 256 := (z2_p _ (z1_p _ hb).1).1
    show ((z2 (z1 (v % 256)) + 256 * mp8 (fun b => z2 (z1 b)) k (v / 256)) % 16 ≤ 4 ∧ (z2 (z1 (v % 256)) + 256 * mp8 (fun b => z2 (z1 b)) k (v / 256)) % 256 / 16 ≤ 4) ∧ hal k ((z2 (z1 (v % 256)) + 256 * mp8 (fun b => z2 (z1 b)) k (v / 256)) / 256)
    rw [show (z2 (z1 (v % 256)) + 256 * mp8 (fun b => z2 (z1 b)) k (v / 256)) / 256 = mp8 (fun b => z2 (z1 b)) k (v / 256) by omega]
    exact ⟨⟨by omega, by omega⟩, hal_z k _⟩
theorem d8 {a b : Nat} (h : a < 256) : (a + 256 * b) / 256 = b := by omega
theorem d16 {a b c : Nat} (h : a < 256) (h1 : b < 256) : (a + 256 * (b + 256 * c)) / 65536 = c := by omega
theorem d32 {a b c d e : Nat} (h : a < 256) (h1 : b < 256) (h2 : c < 256) (h3 : d < 256) : (a + 256 * (b + 256 * (c + 256 * (d + 256 * e)))) / 4294967296 = e := by omega
theorem bc_t2 (q0 q1 q2 q3 q4 q5 q6 q7 : Nat) : q0 + 256 * (q1 + 256 * (q2 + 256 * (q3 + 256 * (q4 + 256 * (q5 + 256 * (q6 + 256 * (q7 + 256 * 0))))))) + (q1 + 256 * (q2 + 256 * (q3 + 256 * (q4 + 256 * (q5 + 256 * (q6 + 256 * (q7 + 256 * 0))))))) = (q0 + q1) + 256 * ((q1 + q2) + 256 * ((q2 + q3) + 256 * ((q3 + q4) + 256 * ((q4 + q5) + 256 * ((q5 + q6) + 256 * ((q6 + q7) + 256 * q7)))))) := by omega
theorem bc_t4 (q0 q1 q2 q3 q4 q5 q6 q7 : Nat) : (q0 + q1) + 256 * ((q1 + q2) + 256 * ((q2 + q3) + 256 * ((q3 + q4) + 256 * ((q4 + q5) + 256 * ((q5 + q6) + 256 * ((q6 + q7) + 256 * q7)))))) + ((q2 + q3) + 256 * ((q3 + q4) + 256 * ((q4 + q5) + 256 * ((q5 + q6) + 256 * ((q6 + q7) + 256 * q7))))) = (q0 + q1 + q2 + q3) + 256 * ((q1 + q2 + q3 + q4) + 256 * ((q2 + q3 + q4 + q5) + 256 * ((q3 + q4 + q5 + q6) + 256 * ((q4 + q5 + q6 + q7) + 256 * ((q5 + q6 + q7) + 256 * ((q6 + q7) + 256 * q7)))))) := by omega
theorem bc_u1 {q0 q1 q2 q3 q4 q5 q6 q7 : Nat} (p0 : q0 ≤ 8) (p1 : q1 ≤ 8) (p2 : q2 ≤ 8) (p3 : q3 ≤ 8) (p4 : q4 ≤ 8) (p5 : q5 ≤ 8) (p6 : q6 ≤ 8) (p7 : q7 ≤ 8) : q0 + 256 * (q1 + 256 * (q2 + 256 * (q3 + 256 * (q4 + 256 * (q5 + 256 * (q6 + 256 * (q7 + 256 * 0))))))) < 2 ^ 64 := by omega
theorem bc_u2 {q0 q1 q2 q3 q4 q5 q6 q7 : Nat} (p0 : q0 ≤ 8) (p1 : q1 ≤ 8) (p2 : q2 ≤ 8) (p3 : q3 ≤ 8) (p4 : q4 ≤ 8) (p5 : q5 ≤ 8) (p6 : q6 ≤ 8) (p7 : q7 ≤ 8) : (q0 + q1) + 256 * ((q1 + q2) + 256 * ((q2 + q3) + 256 * ((q3 + q4) + 256 * ((q4 + q5) + 256 * ((q5 + q6) + 256 * ((q6 + q7) + 256 * q7)))))) < 2 ^ 64 := by omega
theorem bc_u3 {q0 q1 q2 q3 q4 q5 q6 q7 : Nat} (p0 : q0 ≤ 8) (p1 : q1 ≤ 8) (p2 : q2 ≤ 8) (p3 : q3 ≤ 8) (p4 : q4 ≤ 8) (p5 : q5 ≤ 8) (p6 : q6 ≤ 8) (p7 : q7 ≤ 8) : (q0 + q1 + q2 + q3) + 256 * ((q1 + q2 + q3 + q4) + 256 * ((q2 + q3 + q4 + q5) + 256 * ((q3 + q4 + q5 + q6) + 256 * ((q4 + q5 + q6 + q7) + 256 * ((q5 + q6 + q7) + 256 * ((q6 + q7) + 256 * q7)))))) < 2 ^ 63 := by omega
theorem bc_u4 {q0 q1 q2 q3 q4 q5 q6 q7 : Nat} (p0 : q0 ≤ 8) (p1 : q1 ≤ 8) (p2 : q2 ≤ 8) (p3 : q3 ≤ 8) (p4 : q4 ≤ 8) (p5 : q5 ≤ 8) (p6 : q6 ≤ 8) (p7 : q7 ≤ 8) : (q4 + q5 + q6 + q7) + 256 * ((q5 + q6 + q7) + 256 * ((q6 + q7) + 256 * q7)) < 2 ^ 62 := by omega
theorem bc_e9 {a b K K2 : Nat} (h : a + b ≤ 64) : (a + 256 * K + (b + 256 * K2)) % 128 = a + b := by omega
theorem bc_tail {q0 q1 q2 q3 q4 q5 q6 q7 : Nat} (p0 : q0 ≤ 8) (p1 : q1 ≤ 8) (p2 : q2 ≤ 8) (p3 : q3 ≤ 8) (p4 : q4 ≤ 8) (p5 : q5 ≤ 8) (p6 : q6 ≤ 8) (p7 : q7 ≤ 8) : (Option.bind (some (J64 (q0 + 256 * (q1 + 256 * (q2 + 256 * (q3 + 256 * (q4 + 256 * (q5 + 256 * (q6 + 256 * (q7 + 256 * 0)))))))) + ((J64 (q0 + 256 * (q1 + 256 * (q2 + 256 * (q3 + 256 * (q4 + 256 * (q5 + 256 * (q6 + 256 * (q7 + 256 * 0))))))))).toUInt64 >>> UInt64.ofNat 8).toInt64)) fun x5 => Option.bind (some (x5 + (x5.toUInt64 >>> UInt64.ofNat 16).toInt64)) fun x6 => Option.bind (some (x6 + (x6.toUInt64 >>> UInt64.ofNat 32).toInt64)) fun x7 => some (x7.toInt32 &&& (127 : Int32))) = some (Int32.ofNat (q0 + q1 + q2 + q3 + q4 + q5 + q6 + q7)) := by
  have b0 : q0 < 256 := by omega
  have b1 : q0 + q1 < 256 := by omega
  have b2 : q1 + q2 < 256 := by omega
  have b3 : q0 + q1 + q2 + q3 < 256 := by omega
  have b4 : q1 + q2 + q3 + q4 < 256 := by omega
  have b5 : q2 + q3 + q4 + q5 < 256 := by omega
  have b6 : q3 + q4 + q5 + q6 < 256 := by omega
  have t2 := bc_t2 q0 q1 q2 q3 q4 q5 q6 q7
  have t4 := bc_t4 q0 q1 q2 q3 q4 q5 q6 q7
  have u1 := bc_u1 p0 p1 p2 p3 p4 p5 p6 p7
  have u2 := bc_u2 p0 p1 p2 p3 p4 p5 p6 p7
  have u3 := bc_u3 p0 p1 p2 p3 p4 p5 p6 p7
  have u4 := bc_u4 p0 p1 p2 p3 p4 p5 p6 p7
  have t1 := d8 (a := q0) (b := q1 + 256 * (q2 + 256 * (q3 + 256 * (q4 + 256 * (q5 + 256 * (q6 + 256 * (q7 + 256 * 0))))))) b0
  have t3 := d16 (a := q0 + q1) (b := q1 + q2) (c := (q2 + q3) + 256 * ((q3 + q4) + 256 * ((q4 + q5) + 256 * ((q5 + q6) + 256 * ((q6 + q7) + 256 * q7))))) b1 b2
  have t5 := d32 (a := q0 + q1 + q2 + q3) (b := q1 + q2 + q3 + q4) (c := q2 + q3 + q4 + q5) (d := q3 + q4 + q5 + q6) (e := (q4 + q5 + q6 + q7) + 256 * ((q5 + q6 + q7) + 256 * ((q6 + q7) + 256 * q7))) b3 b4 b5 b6
  rw [J_shr u1 (by decide), show (2 : Nat) ^ 8 = 256 from rfl, t1, J_add, t2, Option.bind_some, J_shr u2 (by decide), show (2 : Nat) ^ 16 = 65536 from rfl, t3, J_add, t4, Option.bind_some, J_shr (Nat.lt_trans u3 (by decide)) (by decide), show (2 : Nat) ^ 32 = 4294967296 from rfl, t5, J_add]
  clear t1 t2 t3 t4 t5 u1 u2 b0 b1 b2 b3 b4 b5 b6
  generalize (q1 + q2 + q3 + q4) + 256 * ((q2 + q3 + q4 + q5) + 256 * ((q3 + q4 + q5 + q6) + 256 * ((q4 + q5 + q6 + q7) + 256 * ((q5 + q6 + q7) + 256 * ((q6 + q7) + 256 * q7))))) = K at *
  generalize (q5 + q6 + q7) + 256 * ((q6 + q7) + 256 * q7) = K2 at *
  have hK : q0 + q1 + q2 + q3 + 256 * K + (q4 + q5 + q6 + q7 + 256 * K2) < 2 ^ 64 := Nat.lt_of_lt_of_le (Nat.add_lt_add u3 u4) (by decide)
  rw [Option.bind_some, J_127 hK, bc_e9 (by clear u3 u4 hK; omega), show q0 + q1 + q2 + q3 + (q4 + q5 + q6 + q7) = q0 + q1 + q2 + q3 + q4 + q5 + q6 + q7 by clear u3 u4 hK; omega]
/-- how many bits -/
def pop64 (A : Nat) : Nat := pop (A % 256) + pop (A / 256 % 256) + pop (A / 256 / 256 % 256) + pop (A / 256 / 256 / 256 % 256) + pop (A / 256 / 256 / 256 / 256 % 256) + pop (A / 256 / 256 / 256 / 256 / 256 % 256) + pop (A / 256 / 256 / 256 / 256 / 256 / 256 % 256) + pop (A / 256 / 256 / 256 / 256 / 256 / 256 / 256 % 256)
theorem v_bc64 {A : Nat} (hA : A < 2 ^ 62) : f_J13_bitCount_95d88 (J64 A) = some (Int32.ofNat (pop64 A)) := by
  have hA8 : A < 256 ^ 8 := Nat.lt_trans hA (by decide)
  unfold f_J13_bitCount_95d88
  rw [show (1 : Int32).toInt64.toUInt64 &&& Int64.toUInt64 63 = UInt64.ofNat 1 by decide, show (2 : Int32).toInt64.toUInt64 &&& Int64.toUInt64 63 = UInt64.ofNat 2 by decide, show (4 : Int32).toInt64.toUInt64 &&& Int64.toUInt64 63 = UInt64.ofNat 4 by decide, show (8 : Int32).toInt64.toUInt64 &&& Int64.toUInt64 63 = UInt64.ofNat 8 by decide, show (16 : Int32).toInt64.toUInt64 &&& Int64.toUInt64 63 = UInt64.ofNat 16 by decide, show (32 : Int32).toInt64.toUInt64 &&& Int64.toUInt64 63 = UInt64.ofNat 32 by decide, show (6148914691236517205 : Int64) = J64 (mk8 85 8) by decide, show (3689348814741910323 : Int64) = J64 (mk8 51 8) by decide, show (1085102592571150095 : Int64) = J64 (mk8 15 8) by decide]
  have l85 : mk8 85 8 < 2 ^ 64 := by decide
  have l51 : mk8 51 8 < 2 ^ 64 := by decide
  have l15 : mk8 15 8 < 2 ^ 64 := by decide
  obtain ⟨s1, s2⟩ := S1 8 A hA8
  have hz1 : ∀ b, b < 256 → z1 b < 256 := fun b hb => (z1_p b hb).1
  have hz2 : ∀ b, b < 256 → z2 b < 256 := fun b hb => (z2_p b hb).1
  have m1 := mp8_lt hz1 8 A
  have e256 : 256 ^ 8 = 2 ^ 64 := by decide
  have b1 : mp8 z1 8 A < 2 ^ 64 := by rw [← e256]; exact m1
  have m2 := mp8_lt hz2 8 (mp8 z1 8 A)
  have b2 : mp8 z2 8 (mp8 z1 8 A) < 2 ^ 64 := by rw [← e256]; exact m2
  rw [Option.bind_some, J_shr (by omega) (by decide), J_and (by omega) l85, show (2 : Nat) ^ 1 = 2 from rfl, J_sub s1, s2, Option.bind_some, J_and b1 l51, J_shr b1 (by decide), J_and (by omega) l51, J_add, show (2 : Nat) ^ 2 = 4 from rfl, S2 8 _ m1, Option.bind_some, J_shr b2 (by decide), J_add, show (2 : Nat) ^ 4 = 16 from rfl]
  have hhal : hal 8 (mp8 z2 8 (mp8 z1 8 A)) := by rw [mp8_c hz1]; exact hal_z 8 A
  have s3 := (S3 8 _ m2 hhal).1
  have hz21 : ∀ b, b < 256 → z2 (z1 b) < 256 := fun b hb => hz2 _ (hz1 b hb)
  have e3 : mp8 z3 8 (mp8 z2 8 (mp8 z1 8 A)) = mp8 pop 8 A := by
    rw [mp8_c hz1, mp8_c hz21]
    exact mp8_cg (fun b hb => (z3_p b hb).1) 8 A
  have bsum : mp8 z2 8 (mp8 z1 8 A) + mp8 z2 8 (mp8 z1 8 A) / 16 < 2 ^ 64 := by
    have hA2 : mp8 z2 8 (mp8 z1 8 A) < 2 ^ 63 := by
      have h7 : mp8 z2 8 (mp8 z1 8 A) = mp8 (fun b => z2 (z1 b)) 8 A := mp8_c hz1 8 A
      have hh := hal_z 8 A
      rw [← h7] at hh
      have h8 := hh.2.2.2.2.2.2.2.1.2
      omega
    omega
  rw [J_and bsum l15, s3, e3]
  unfold pop64
  have pb : ∀ b, pop (b % 256) ≤ 8 := fun b => pop_le _ (Nat.mod_lt _ (by decide))
  have p0 := pb A
  have p1 := pb (A / 256)
  have p2 := pb (A / 256 / 256)
  have p3 := pb (A / 256 / 256 / 256)
  have p4 := pb (A / 256 / 256 / 256 / 256)
  have p5 := pb (A / 256 / 256 / 256 / 256 / 256)
  have p6 := pb (A / 256 / 256 / 256 / 256 / 256 / 256)
  have p7 := pb (A / 256 / 256 / 256 / 256 / 256 / 256 / 256)
  have e4 : mp8 pop 8 A = pop (A % 256) + 256 * (pop (A / 256 % 256) + 256 * (pop (A / 256 / 256 % 256) + 256 * (pop (A / 256 / 256 / 256 % 256) + 256 * (pop (A / 256 / 256 / 256 / 256 % 256) + 256 * (pop (A / 256 / 256 / 256 / 256 / 256 % 256) + 256 * (pop (A / 256 / 256 / 256 / 256 / 256 / 256 % 256) + 256 * (pop (A / 256 / 256 / 256 / 256 / 256 / 256 / 256 % 256) + 256 * 0))))))) := rfl
  rw [e4]
  clear e4 e3 s3 hhal bsum m1 m2 b1 b2 s1 s2 pb
  exact bc_tail p0 p1 p2 p3 p4 p5 p6 p7
end
