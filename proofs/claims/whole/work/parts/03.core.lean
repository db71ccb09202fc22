/-! The machine layer. A state of the program is a memory of numbers at addresses of its own (64 and on; below 64: what lies outside), laid over the machine's heap from a base on. -/
abbrev hm_M : Type := (Nat → Nat → Int32) × (Nat → Nat → Int64) × (Nat → Nat → Option Nat) × Nat × (Nat → Nat) × (Nat → Nat)
abbrev hm_G : Type := va_G × (Nat → ClassId) × (Nat → Nat) × Nat
abbrev hm_nx (μ : hm_M) : Nat := μ.2.2.2.1
abbrev hm_kd (μ : hm_M) : Nat → Nat := μ.2.2.2.2.1
abbrev hm_ln (μ : hm_M) : Nat → Nat := μ.2.2.2.2.2
def hm_u {α : Type} (f : Nat → Nat → α) (a j : Nat) (v : α) : Nat → Nat → α := fun b k => if b = a ∧ k = j then v else f b k
def hm_wI (μ : hm_M) (a j : Nat) (v : Int32) : hm_M := (hm_u μ.1 a j v, μ.2)
def hm_wJ (μ : hm_M) (a j : Nat) (v : Int64) : hm_M := (μ.1, hm_u μ.2.1 a j v, μ.2.2)
def hm_wR (μ : hm_M) (a j : Nat) (v : Option Nat) : hm_M := (μ.1, μ.2.1, hm_u μ.2.2.1 a j v, μ.2.2.2)
def hm_ra (g : hm_G) (a : Nat) : Nat := g.2.2.2 + (a - 64)
def hm_ad (g : hm_G) (a : Nat) : Nat := if a < 64 then g.2.2.1 a else hm_ra g a
def hm_cv (g : hm_G) : Value → Value
  | .ref a => .ref (hm_ad g a)
  | v => v
theorem hm_cv_rf (g : hm_G) (r : Option Nat) : hm_cv g (va_rf r) = va_rf (r.map (hm_ad g)) := by cases r <;> rfl
theorem hm_cat (g : hm_G) (v : Value) : (hm_cv g v).category = v.category := by cases v <;> rfl
theorem hm_ad_hi {g : hm_G} {a : Nat} (h : 64 ≤ a) : hm_ad g a = hm_ra g a := if_neg (by omega)
/-- which fields of a class are references -/
def hm_fT : Nat → List Bool
  | 0 => [true, true, true, true, true, false, false]
  | 1 => [true, true]
  | 2 => [true, true, true, true, true, false, false]
  | 3 => [true]
  | 4 => [true, true, false]
  | 5 => [true, true, true, false, false, false]
  | 6 => [true, true, false, false, false, false, false, false, false, false]
  | 7 => [true, false, false]
  | 8 => [false, true, true, true, true, true, true, false, false, true, true, true, false]
  | 9 => [true, true, true, true, false, true, true, true, true, true, true, true, false, false, false, false, false, true, true]
  | _ => [false, true, true, true, true, true, false, true, false, false, false, true, true, false, false, true, true, true, false, false, false, false, false, false, false, false, true, false, false, false, true, true, true, false, true, true, true, true, false, false, true, false, false, true, true, true, false, false, false, false, false, false, true, true, false, false]
def hm_f1 (g : hm_G) (μ : hm_M) (a j : Nat) (b : Bool) : Value := if b = true then va_rf ((μ.2.2.1 a j).map (hm_ad g)) else .int (μ.1 a j)
def hm_fv (g : hm_G) (μ : hm_M) (a : Nat) : Nat → List Bool → List Value
  | _, [] => []
  | j, b :: l => hm_f1 g μ a j b :: hm_fv g μ a (j + 1) l
theorem hm_fv_len (g : hm_G) (μ : hm_M) (a : Nat) : ∀ (l : List Bool) (j : Nat), (hm_fv g μ a j l).length = l.length
  | [], _ => rfl
  | _ :: l, j => by simp [hm_fv, hm_fv_len g μ a l (j + 1)]
theorem hm_fv_get (g : hm_G) (μ : hm_M) (a : Nat) : ∀ (l : List Bool) (j k : Nat), (hm_fv g μ a j l)[k]? = (l[k]?).map (fun b => hm_f1 g μ a (j + k) b)
  | [], _, _ => rfl
  | b :: l, j, 0 => rfl
  | b :: l, j, k + 1 => by
    show (hm_fv g μ a (j + 1) l)[k]? = (l[k]?).map _
    rw [hm_fv_get g μ a l (j + 1) k]
    simp only [show j + 1 + k = j + (k + 1) by omega]
theorem hm_fv_set {g : hm_G} {μ μ2 : hm_M} {a k : Nat} {l : List Bool} {v : Value} (hk : ∀ b, l[k]? = some b → hm_f1 g μ2 a k b = v) (ho : ∀ j b, j ≠ k → hm_f1 g μ2 a j b = hm_f1 g μ a j b) : hm_fv g μ2 a 0 l = (hm_fv g μ a 0 l).set k v := by
  apply List.ext_getElem?
  intro i
  rw [hm_fv_get, List.getElem?_set, hm_fv_get, hm_fv_len]
  by_cases e : k = i
  · subst e
    rw [if_pos rfl]
    by_cases hl : k < l.length
    · rw [if_pos hl, List.getElem?_eq_getElem hl]
      simp only [Option.map_some, Nat.zero_add]
      rw [hk _ (List.getElem?_eq_getElem hl)]
    · rw [if_neg hl, List.getElem?_eq_none (by omega)]
      rfl
  · rw [if_neg e]
    cases l[i]? with
    | none => rfl
    | some b =>
      simp only [Option.map_some, Nat.zero_add]
      rw [ho i b (fun q => e q.symm)]
/-- what a cell holds -/
def hm_pl (g : hm_G) (μ : hm_M) (a : Nat) : vp_A := (hm_ln μ a, if hm_kd μ a = 14 then .inr (.inl (μ.2.1 a)) else if hm_kd μ a < 16 then .inl (μ.1 a) else .inr (.inr (.inr (.inr (fun i => (μ.2.2.1 a i).map (hm_ad g))))))
def hm_en (g : hm_G) (μ : hm_M) (a : Nat) : va_E := if hm_kd μ a < 11 then .inr (hm_kd μ a, hm_fv g μ a 0 (hm_fT (hm_kd μ a))) else .inl (g.2.1 (hm_kd μ a), hm_pl g μ a)
/-- the memory lies in the heap -/
def hm_W (g : hm_G) (μ : hm_M) (H : Heap) : Prop := 64 ≤ hm_nx μ ∧ H.size = hm_ra g (hm_nx μ) ∧ ∀ a, 64 ≤ a → a < hm_nx μ → va_at g.1 vwCl (hm_ra g a, hm_en g μ a) H
def hm_tys (g : hm_G) : List (ClassId × FieldType) := [(g.2.1 11, .byte), (g.2.1 12, .char), (g.2.1 13, .int), (g.2.1 14, .long), (g.2.1 15, .boolean), (g.2.1 16, .object "HandRing$Program"), (g.2.1 17, .object "HandRing$Village"), (g.2.1 18, .array .int)]
def hm_A (g : hm_G) : Nat → Prop := fun q => g.2.2.2 ≤ q
theorem hm_W.one {g : hm_G} {μ : hm_M} {H : Heap} (h : hm_W g μ H) {a : Nat} (h1 : 64 ≤ a) (h2 : a < hm_nx μ) : va_P g.1 vwCl [(hm_ra g a, hm_en g μ a)] H := by
  intro k q hq
  cases k with
  | zero => cases hq; exact h.2.2 a h1 h2
  | succ k => cases hq
theorem hm_ra_inj {g : hm_G} {a b : Nat} (ha : 64 ≤ a) (hb : 64 ≤ b) (h : hm_ra g a = hm_ra g b) : a = b := by
  unfold hm_ra at h
  omega
/-- one cell changed -/
theorem hm_W.upd {g : hm_G} {μ μ2 : hm_M} {H H1 : Heap} (h : hm_W g μ H) {a : Nat} (h1 : 64 ≤ a) (h2 : a < hm_nx μ) (hn : μ2.2.2.2 = μ.2.2.2) (hz : H1.size = H.size) (oq : ∀ q : Nat, q ≠ hm_ra g a → H1[q]? = H[q]?) (he : va_at g.1 vwCl (hm_ra g a, hm_en g μ2 a) H1) (ho : ∀ b, b ≠ a → hm_en g μ2 b = hm_en g μ b) : hm_W g μ2 H1 := by
  have e : hm_nx μ2 = hm_nx μ := by show μ2.2.2.2.1 = _; rw [hn]
  refine ⟨by rw [e]; exact h.1, by rw [hz, e]; exact h.2.1, fun b hb1 hb2 => ?_⟩
  by_cases hb : b = a
  · subst hb
    exact he
  · rw [ho b hb]
    have hne : hm_ra g b ≠ hm_ra g a := fun q => hb (hm_ra_inj hb1 h1 q)
    exact va_at.kept (h.2.2 b hb1 (by rw [e] at hb2; exact hb2)) (oq _ hne)
