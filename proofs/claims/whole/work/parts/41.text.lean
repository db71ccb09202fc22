section
/-! What a text says: read by tokens, put in the order in which it is worked out, and what it means. -/
def nat (x : Int32) : Nat := x.toNatClampNeg
abbrev bd (x : Int32) (B : Nat) : Prop := x = Int32.ofNat (nat x) ∧ nat x < B
theorem nat_n {n : Nat} (h : n < 2147483648) : nat (Int32.ofNat n) = n := n_cl h
theorem bd_n {n B : Nat} (h : n < B) (hB : B ≤ 2147483648) : bd (Int32.ofNat n) B := by
  unfold bd
  rw [nat_n (by omega)]
  exact ⟨rfl, h⟩
theorem bd_of {x : Int32} {n B : Nat} (e : x = Int32.ofNat n) (h : n < B) (hB : B ≤ 2147483648) : bd x B := e ▸ bd_n h hB
abbrev pc_C : Type := List (Int32 × Int32)
abbrev pc_S : Type := (Nat → Int32) → Option Int32
abbrev pc_R (α : Type) : Type := Except Nat (Nat × Nat × pc_C × α)
def pc_b {α β : Type} (r : pc_R α) (f : Nat → Nat → pc_C → α → pc_R β) : pc_R β :=
  match r with
  | .error e => .error e
  | .ok (j, l, C, s) => f j l C s
def pc_op (op a b : Int32) : Option Int32 := (f_X4_workOut op a.toInt64 b.toInt64).bind fun x => if 0 < lg_cmp x 1000000000 then none else if 0 ≤ lg_cmp x (-1000000000) then some x.toInt32 else none
def pc_s2 (op : Int32) (s t : pc_S) : pc_S := fun e => (s e).bind fun a => (t e).bind fun b => pc_op op a b
def pc_nt (s : pc_S) : pc_S := fun e => (s e).bind fun a => some (1 - a)
def pc_or (s t : pc_S) : pc_S := fun e => (s e).bind fun a => if a = 1 then some a else t e
def pc_an (s t : pc_S) : pc_S := fun e => (s e).bind fun a => if a = 0 then some a else t e
def pc_word (ord : Bool) (c : Nat) : Nat := if ord = true then (if 15 ≤ c ∧ c ≤ 21 then c - 15 else 99) else if 8 ≤ c ∧ c ≤ 13 then c - 8 else if c = 15 then 6 else if c = 14 then 7 else 99
def pc_leap (C : pc_C) (k : Nat) : pc_C := C.set k ((C.getD k (0, 0)).1, Int32.ofNat C.length)
def pc_whose (w v : Nat) : Nat := (if w = 5 then 5 else 13) + v
def pc_part (ord : Bool) (tk vl : Nat → Nat) (ks : Nat → Nat → Nat → pc_C → pc_R pc_S) (d i l : Nat) (C : pc_C) : pc_R pc_S :=
  if tk i = 191 then
    if d < 8 then pc_b (ks (d + 1) (i + 1) l C) fun j l1 C1 s => if tk j = 193 then .ok (j + 1, l1, C1, s) else .error j
    else .error i
  else if l < 50 then
    if tk i = 50 ∧ vl i ≤ 1000 then .ok (i + 1, l + 1, C ++ [(0, Int32.ofNat (vl i))], fun _ => some (Int32.ofNat (vl i)))
    else if pc_word ord (tk i) = 99 then .error i
    else if ord = true ∧ 5 ≤ pc_word ord (tk i) then
      if tk (i + 1) = 50 ∧ vl (i + 1) ≤ 7 then .ok (i + 2, l + 1, C ++ [(1, Int32.ofNat (pc_whose (pc_word ord (tk i)) (vl (i + 1))))], fun e => some (e (pc_whose (pc_word ord (tk i)) (vl (i + 1)))))
      else .error (i + 1)
    else .ok (i + 1, l + 1, C ++ [(1, Int32.ofNat (pc_word ord (tk i)))], fun e => some (e (pc_word ord (tk i))))
  else .error i
def pc_mul (c : Nat) : Nat := if c = 142 then 4 else if c = 147 then 5 else if c = 137 then 6 else 0
def pc_add (c : Nat) : Nat := if c = 143 then 2 else if c = 145 then 3 else 0
def pc_cmp (c : Nat) : Nat := if c = 160 then 7 else if c = 162 then 8 else if c = 161 then 9 else 0
def pc_loop (tk : Nat → Nat) (g : Nat → Nat) (kp : Nat → Nat → pc_C → pc_R pc_S) : Nat → Nat → Nat → pc_C → pc_S → pc_R pc_S
  | 0, i, l, C, s => .ok (i, l, C, s)
  | m + 1, i, l, C, s => if g (tk i) = 0 then .ok (i, l, C, s) else pc_b (kp (i + 1) l C) fun j l1 C1 t => pc_loop tk g kp m j l1 (C1 ++ [(Int32.ofNat (g (tk i)), 0)]) (pc_s2 (Int32.ofNat (g (tk i))) s t)
def pc_term (ord : Bool) (tk vl : Nat → Nat) (ks : Nat → Nat → Nat → pc_C → pc_R pc_S) (d i l : Nat) (C : pc_C) : pc_R pc_S := pc_b (pc_part ord tk vl ks d i l C) fun j l1 C1 s => pc_loop tk pc_mul (pc_part ord tk vl ks d) 400 j l1 C1 s
def pc_sum (ord : Bool) (tk vl : Nat → Nat) : Nat → Nat → Nat → Nat → pc_C → pc_R pc_S
  | 0, _, i, _, _ => .error i
  | n + 1, d, i, l, C => pc_b (pc_term ord tk vl (pc_sum ord tk vl n) d i l C) fun j l1 C1 s => pc_loop tk pc_add (pc_term ord tk vl (pc_sum ord tk vl n) d) 400 j l1 C1 s
def pc_nots (tk : Nat → Nat) : Nat → Nat → Bool → Nat × Bool
  | 0, i, b => (i, b)
  | m + 1, i, b => if tk i = 7 then pc_nots tk m (i + 1) (!b) else (i, b)
def pc_fin (b : Bool) (j l : Nat) (C : pc_C) (s : pc_S) : pc_R pc_S := if b = true then .ok (j, l, C ++ [(10, 0)], pc_nt s) else .ok (j, l, C, s)
def pc_pos (ord : Bool) (tk vl : Nat → Nat) (kt : Nat → Nat → Nat → pc_C → pc_R pc_S) (d i l : Nat) (C : pc_C) (b : Bool) : pc_R pc_S :=
  if tk i = 140 then
    if d < 8 then pc_b (kt (d + 1) (i + 1) l C) fun j l1 C1 s => if tk j = 141 then pc_fin b (j + 1) l1 C1 s else .error j
    else .error i
  else pc_b (pc_sum ord tk vl 10 d i l C) fun j l1 C1 s => if pc_cmp (tk j) = 0 then .error j else pc_b (pc_sum ord tk vl 10 d (j + 1) l1 C1) fun j2 l2 C2 t => pc_fin b j2 l2 (C2 ++ [(Int32.ofNat (pc_cmp (tk j)), 0)]) (pc_s2 (Int32.ofNat (pc_cmp (tk j))) s t)
def pc_plain (ord : Bool) (tk vl : Nat → Nat) (kt : Nat → Nat → Nat → pc_C → pc_R pc_S) (d i l : Nat) (C : pc_C) : pc_R pc_S := pc_pos ord tk vl kt d (pc_nots tk 400 i false).1 l C (pc_nots tk 400 i false).2
def pc_lg (tk : Nat → Nat) (c : Nat) (op : Int32) (f : pc_S → pc_S → pc_S) (kp : Nat → Nat → pc_C → pc_R pc_S) : Nat → Nat → Nat → pc_C → pc_S → pc_R pc_S
  | 0, i, l, C, s => .ok (i, l, C, s)
  | m + 1, i, l, C, s => if tk i = c then pc_b (kp (i + 1) l (C ++ [(op, 0)])) fun j l1 C1 t => pc_lg tk c op f kp m j l1 (pc_leap C1 C.length) (f s t) else .ok (i, l, C, s)
def pc_both (ord : Bool) (tk vl : Nat → Nat) (kt : Nat → Nat → Nat → pc_C → pc_R pc_S) (d i l : Nat) (C : pc_C) : pc_R pc_S := pc_b (pc_plain ord tk vl kt d i l C) fun j l1 C1 s => pc_lg tk 6 12 pc_an (pc_plain ord tk vl kt d) 400 j l1 C1 s
def pc_test (ord : Bool) (tk vl : Nat → Nat) : Nat → Nat → Nat → Nat → pc_C → pc_R pc_S
  | 0, _, i, _, _ => .error i
  | n + 1, d, i, l, C => pc_b (pc_both ord tk vl (pc_test ord tk vl n) d i l C) fun j l1 C1 s => pc_lg tk 5 11 pc_or (pc_both ord tk vl (pc_test ord tk vl n) d) 400 j l1 C1 s
/-- a clause: its head, where its sums and its test lie, how often; what they mean -/
abbrev pc_K : Type := (Nat × Nat × Nat × Nat × Nat × Nat) × pc_S × pc_S × Option pc_S
def pc_if (ord : Bool) (tk vl : Nat → Nat) (j l : Nat) (C : pc_C) : pc_R (Option pc_S) := if tk j = 4 then pc_b (pc_test ord tk vl 10 0 (j + 1) l C) fun j1 l1 C1 s => .ok (j1, l1, C1, some s) else .ok (j, l, C, none)
def pc_times (tk vl : Nat → Nat) (j : Nat) : Except Nat (Nat × Nat) := if tk j = 29 then (if tk (j + 1) = 50 ∧ 1 ≤ vl (j + 1) ∧ vl (j + 1) ≤ 20 then .ok (j + 2, vl (j + 1)) else .error (j + 1)) else .ok (j, 1)
def pc_z : pc_S := fun _ => some 0
def pc_headL (c : Nat) : Nat := if c = 1 then 0 else if c = 2 then 1 else if c = 3 then 2 else 9
def pc_headO (c : Nat) : Nat := if c = 22 then 0 else if c = 24 then 1 else if c = 26 then 2 else if c = 28 then 3 else 9
def pc_law1 (tk vl : Nat → Nat) (i l : Nat) (C : pc_C) : pc_R pc_K :=
  if pc_headL (tk i) = 9 then .error i
  else if pc_headL (tk i) = 2 then pc_b (pc_if false tk vl (i + 1) l C) fun j2 l2 C2 t => .ok (j2, l2, C2, ((2, C.length, C.length, C.length, C2.length, 1), pc_z, pc_z, t))
  else pc_b (pc_sum false tk vl 10 0 (i + 1) l C) fun j l1 C1 s => pc_b (pc_if false tk vl j l1 C1) fun j2 l2 C2 t => .ok (j2, l2, C2, ((pc_headL (tk i), C.length, C1.length, C1.length, C2.length, 1), s, pc_z, t))
def pc_tail (tk vl : Nat → Nat) (h a e1 : Nat) (s1 s2 : pc_S) (j l : Nat) (C : pc_C) : pc_R pc_K :=
  match pc_times tk vl j with
  | .error e => .error e
  | .ok (j1, n) => pc_b (pc_if true tk vl j1 l C) fun j2 l2 C2 t => .ok (j2, l2, C2, ((h, a, e1, C.length, C2.length, n), s1, s2, t))
def pc_ord1 (tk vl : Nat → Nat) (i l : Nat) (C : pc_C) : pc_R pc_K :=
  if pc_headO (tk i) = 9 then .error i
  else if pc_headO (tk i) = 3 then pc_tail tk vl 3 C.length C.length pc_z pc_z (i + 1) l C
  else pc_b (pc_sum true tk vl 10 0 (i + 1) l C) fun j l1 C1 s1 => if tk j = 23 + 2 * pc_headO (tk i) then pc_b (pc_sum true tk vl 10 0 (j + 1) l1 C1) fun j2 l2 C2 s2 => pc_tail tk vl (pc_headO (tk i)) C.length C1.length s1 s2 j2 l2 C2 else .error j
def pc_one (ord : Bool) (tk vl : Nat → Nat) (i l : Nat) (C : pc_C) : pc_R pc_K := if ord = true then pc_ord1 tk vl i l C else pc_law1 tk vl i l C
def pc_text (ord : Bool) (tk vl : Nat → Nat) (N : Nat) : Nat → Nat → Nat → pc_C → List pc_K → Except Nat (pc_C × List pc_K)
  | 0, i, _, _, _ => .error i
  | m + 1, i, l, C, A => match pc_one ord tk vl i l C with
    | .error e => .error e
    | .ok (j, l1, C1, k) => if tk j = 159 then pc_text ord tk vl N m (j + 1) l1 C1 (A ++ [k]) else if j < N then .error j else .ok (C1, A ++ [k])
/-- what the last clause with a head tells -/
def pc_cl (h : Nat) (k : pc_K) (e : Nat → Int32) : Option Int32 := if k.1.1 = h then (match k.2.2.2 with
  | none => k.2.1 e
  | some t => if t e = some 1 then k.2.1 e else none) else none
def pc_told (h : Nat) (e : Nat → Int32) : List pc_K → Option Int32
  | [] => none
  | k :: L => match pc_told h e L with
    | some v => some v
    | none => pc_cl h k e
/-! The machine that works it out. -/
def mq_step (e : Nat → Int32) (W : Nat) (c : Int32 × Int32) (a : Nat) (st : List Int32) : Option (Nat × List Int32) :=
  if c.1 = 0 then (if st.length < 64 then some (a + 1, c.2 :: st) else none)
  else if c.1 = 1 then (if st.length < 64 ∧ bd c.2 W then some (a + 1, e (nat c.2) :: st) else none)
  else if c.1 = 10 then (match st with
    | x :: r => some (a + 1, (1 - x) :: r)
    | [] => none)
  else if (10 : Int32) < c.1 then (match st with
    | x :: r => if x = (if c.1 = 11 then 1 else 0) then some (if a + 1 < nat c.2 then nat c.2 else a + 1, x :: r) else some (a + 1, r)
    | [] => none)
  else (match st with
    | y :: x :: r => (pc_op c.1 x y).bind fun v => some (a + 1, v :: r)
    | _ => none)
def mq_run (e : Nat → Int32) (W : Nat) (prog : Nat → Int32 × Int32) (to : Nat) : Nat → Nat → List Int32 → Option (List Int32)
  | 0, _, st => some st
  | n + 1, a, st => if to ≤ a then some st else (mq_step e W (prog a) a st).bind fun q => mq_run e W prog to n q.1 q.2
def sg (e : Nat → Int32) (W : Nat) (prog : Nat → Int32 × Int32) (a b : Nat) (s : Option Int32) (h : Nat) : Prop := ∀ (to : Nat) (st : List Int32) (n : Nat), b ≤ to → to ≤ a + n → st.length + h ≤ 64 → ∃ m, to ≤ b + m ∧ mq_run e W prog to n a st = s.bind fun v => mq_run e W prog to m b (v :: st)
section
variable {e : Nat → Int32} {W : Nat} {prog : Nat → Int32 × Int32}
theorem mq_go {to n a : Nat} {st : List Int32} (h : a < to) (hn : to ≤ a + n) : ∃ m, n = m + 1 ∧ mq_run e W prog to n a st = (mq_step e W (prog a) a st).bind fun q => mq_run e W prog to m q.1 q.2 := by
  match n, hn with
  | 0, hn => omega
  | m + 1, _ => exact ⟨m, rfl, if_neg (by omega)⟩
theorem sg_num {a : Nat} {x : Int32} {h : Nat} (hp : prog a = (0, x)) (hh : 1 ≤ h) : sg e W prog a (a + 1) (some x) h := by
  intro to st n h1 h2 h3
  obtain ⟨m, rfl, e1⟩ := mq_go (e := e) (W := W) (prog := prog) (st := st) (show a < to by omega) h2
  refine ⟨m, by omega, ?_⟩
  rw [e1, hp]
  simp only [mq_step, if_pos (show st.length < 64 by omega), if_true, Option.bind_some]
theorem sg_word {a k h : Nat} (hp : prog a = (1, Int32.ofNat k)) (hk : k < W) (hW : W ≤ 2147483648) (hh : 1 ≤ h) : sg e W prog a (a + 1) (some (e k)) h := by
  intro to st n h1 h2 h3
  obtain ⟨m, rfl, e1⟩ := mq_go (e := e) (W := W) (prog := prog) (st := st) (show a < to by omega) h2
  refine ⟨m, by omega, ?_⟩
  rw [e1, hp]
  simp only [mq_step, if_neg (show ¬ (1 : Int32) = 0 by decide), if_true, if_pos (show st.length < 64 ∧ bd (Int32.ofNat k) W from ⟨by omega, bd_n hk hW⟩), Option.bind_some, nat_n (show k < 2147483648 by omega)]
theorem sg_bin {a b c h1 h2 h : Nat} {s t : Option Int32} {op x : Int32} (hs : sg e W prog a b s h1) (ht : sg e W prog b c t h2) (hp : prog c = (op, x)) (ho : op ≠ 0 ∧ op ≠ 1 ∧ op ≠ 10 ∧ ¬ (10 : Int32) < op) (hh : h1 ≤ h ∧ h2 + 1 ≤ h) (hb : b ≤ c) : sg e W prog a (c + 1) (s.bind fun x => t.bind fun y => pc_op op x y) h := by
  intro to st n l1 l2 l3
  obtain ⟨m, lm, e1⟩ := hs to st n (by omega) l2 (by omega)
  cases s with
  | none => exact ⟨to, by omega, e1⟩
  | some v =>
    obtain ⟨m2, lm2, e2⟩ := ht to (v :: st) m (by omega) lm (by simp only [List.length_cons]; omega)
    cases t with
    | none =>
      refine ⟨to, by omega, ?_⟩
      rw [e1]
      exact e2
    | some y =>
      obtain ⟨m3, rfl, e3⟩ := mq_go (e := e) (W := W) (prog := prog) (st := y :: v :: st) (show c < to by omega) lm2
      refine ⟨m3, by omega, ?_⟩
      rw [e1]
      refine e2.trans ?_
      refine e3.trans ?_
      rw [hp]
      simp only [mq_step, if_neg ho.1, if_neg ho.2.1, if_neg ho.2.2.1, if_neg ho.2.2.2, Option.bind_some]
      cases pc_op op v y <;> rfl
theorem sg_not {a b h : Nat} {s : Option Int32} {x : Int32} (hs : sg e W prog a b s h) (hp : prog b = (10, x)) : sg e W prog a (b + 1) (s.bind fun a => some (1 - a)) h := by
  intro to st n l1 l2 l3
  obtain ⟨m, lm, e1⟩ := hs to st n (by omega) l2 (by omega)
  cases s with
  | none => exact ⟨to, by omega, e1⟩
  | some v =>
    obtain ⟨m3, rfl, e3⟩ := mq_go (e := e) (W := W) (prog := prog) (st := v :: st) (show b < to by omega) lm
    refine ⟨m3, by omega, ?_⟩
    rw [e1]
    refine e3.trans ?_
    rw [hp]
    simp only [mq_step, if_neg (show ¬ (10 : Int32) = 0 by decide), if_neg (show ¬ (10 : Int32) = 1 by decide), if_true, Option.bind_some]
theorem sg_or {a b c h1 h2 h : Nat} {s t : Option Int32} {op : Int32} (ho : op = 11 ∨ op = 12) (hs : sg e W prog a b s h1) (ht : sg e W prog (b + 1) c t h2) (hp : prog b = (op, Int32.ofNat c)) (hc : c < 2147483648) (hb : b < c) (hh : h1 ≤ h ∧ h2 ≤ h) : sg e W prog a c (s.bind fun x => if x = (if op = 11 then 1 else 0) then some x else t) h := by
  intro to st n l1 l2 l3
  obtain ⟨m, lm, e1⟩ := hs to st n (by omega) l2 (by omega)
  have o0 : op ≠ 0 := by rcases ho with rfl | rfl <;> decide
  have o1 : op ≠ 1 := by rcases ho with rfl | rfl <;> decide
  have o2 : op ≠ 10 := by rcases ho with rfl | rfl <;> decide
  have o3 : (10 : Int32) < op := by rcases ho with rfl | rfl <;> decide
  cases s with
  | none => exact ⟨to, by omega, e1⟩
  | some v =>
    obtain ⟨m3, rfl, e3⟩ := mq_go (e := e) (W := W) (prog := prog) (st := v :: st) (show b < to by omega) lm
    have e4 : mq_step e W (prog b) b (v :: st) = if v = (if op = 11 then 1 else 0) then some (if b + 1 < c then c else b + 1, v :: st) else some (b + 1, st) := by
      rw [hp]
      simp only [mq_step, if_neg o0, if_neg o1, if_neg o2, if_pos o3, nat_n hc]
    by_cases hv : v = (if op = 11 then 1 else 0)
    · refine ⟨m3, by omega, ?_⟩
      rw [e1]
      refine e3.trans ?_
      rw [e4, if_pos hv]
      simp only [Option.bind_some, if_pos hv]
      have e5 : (if b + 1 < c then c else b + 1) = c := by split <;> omega
      rw [e5]
    · obtain ⟨m4, lm4, e5⟩ := ht to st m3 l1 (by omega) (by omega)
      refine ⟨m4, lm4, ?_⟩
      rw [e1]
      refine e3.trans ?_
      rw [e4, if_neg hv]
      simp only [Option.bind_some, if_neg hv]
      exact e5
end
end
