section
/-! One order on both sides. -/
def smL (x : Int32) : Prop := 0 ≤ x.toInt ∧ x.toInt ≤ 1000000
def sm (x : Int32) : Int32 := if 0 ≤ x.toInt then (if x.toInt ≤ 1000000 then x else -1) else -1
theorem v_small (x : Int32) : f_X10_small x.toInt64 = some (sm x) := by
  unfold f_X10_small sm
  simp only [lg_cmp_lt, lg_cmp_le, Int64.lt_iff_toInt_lt, Int64.le_iff_toInt_le, i64_of32, show (0 : Int64).toInt = 0 from rfl, show (1000000 : Int64).toInt = 1000000 from rfl]
  by_cases h1 : 0 ≤ x.toInt
  · rw [if_neg (by omega), if_pos h1]
    by_cases h2 : x.toInt ≤ 1000000
    · rw [if_pos h2, if_pos h2]
      congr 1
      apply Int32.toInt_inj.mp
      rw [i64_32 (by rw [i64_of32]; omega) (by rw [i64_of32]; omega), i64_of32]
    · rw [if_neg h2, if_neg h2]
  · rw [if_pos (by omega), if_neg h1]
theorem sm_id {x : Int32} (h : smL x) : sm x = x := by unfold sm; rw [if_pos h.1, if_pos h.2]
theorem sm_no {x : Int32} (h : ¬ smL x) : ¬ smL (sm x) := by
  unfold sm
  by_cases h1 : 0 ≤ x.toInt
  · rw [if_pos h1, if_neg fun z => h ⟨h1, z⟩]
    exact fun z => absurd z.1 (by decide)
  · rw [if_neg h1]
    exact fun z => absurd z.1 (by decide)
variable {ρ : Nat → Int32} {μ : hm_M} {law : Option Nat} {L : List pc_K} {d : Nat} {x y : Int32}
theorem doOne_out (hd : d < 3) (hD : DW ρ) (ho : ¬ (smL x ∧ smL y)) (hV : VD μ 65 ρ) (l1 : f_X8_lawInForce 65 μ = some law) (hL : LJ μ law L) (hW : hm_ln μ 109 = 8) : ∃ ans μ1, f_X1_doOne 65 (Int32.ofNat d) x y μ = some (ans, μ1) ∧ ans < 0 := by
  have h9 := hD.1.2
  have hs : ∀ a b : Nat, a < nat (ρ 54) → b < 8 → x = Int32.ofNat a → y = Int32.ofNat b → False := fun a b ha hb e1 e2 => ho ⟨by unfold smL; rw [e1, n_toInt (by omega)]; omega, by unfold smL; rw [e2, n_toInt (by omega)]; omega⟩
  have hd3 : d = 0 ∨ d = 1 ∨ d = 2 := by omega
  unfold f_X1_doOne
  rcases hd3 with rfl | rfl | rfl
  · rw [if_neg (by decide), if_pos (show Int32.ofNat 0 = 0 from rfl)]
    obtain ⟨μ1, f, ⟨-, e, g⟩ | ⟨-, -, e, g⟩ | ⟨a, b, e1, e2, q, q1, q2, -⟩⟩ := x1_take hV hD (by unfold vO; omega) (by omega) l1 hL hW x y
    · exact ⟨_, _, by rw [e, b2_some], by decide⟩
    · exact ⟨_, _, by rw [e, b2_some], by decide⟩
    · exact absurd (hs a b q1 (by omega) e1 e2) id
  · rw [if_neg (by decide), if_neg (by decide), if_pos (show Int32.ofNat 1 = 1 from rfl)]
    obtain ⟨μ1, f, ⟨-, e, g⟩ | ⟨-, -, e, g⟩ | ⟨a, b, e1, e2, q, q1, q2, -⟩⟩ := x1_loose hV hD (by unfold vO; omega) x y
    · exact ⟨_, _, by rw [e, b2_some], by decide⟩
    · exact ⟨_, _, by rw [e, b2_some], by decide⟩
    · exact absurd (hs a b q1 (by omega) e1 e2) id
  · rw [if_neg (by decide), if_neg (by decide), if_neg (by decide), if_pos (show Int32.ofNat 2 = 2 from rfl)]
    obtain ⟨μ1, f, ⟨-, e, g⟩ | ⟨-, -, e, g⟩ | ⟨a, b, e1, e2, q1, q2, q3, -⟩⟩ := x1_step hV hD x y
    · exact ⟨_, _, by rw [e, b2_some, if_neg (by decide)], by decide⟩
    · exact ⟨_, _, by rw [e, b2_some, if_neg (by decide)], by decide⟩
    · exact absurd (hs a b q1 (by omega) e1 e2) id
theorem F10_3 (a b : Int32) (m : hm_M) : F10 3 a b m = f_X10_passesKept m := by
  unfold F10
  rw [if_neg (by decide), if_neg (by decide), if_neg (by decide)]
theorem deed_two (hd : d < 4) (hD : DW ρ) (hF : FL ρ L) (hV : VD μ 65 ρ) (l1 : f_X8_lawInForce 65 μ = some law) (hL : LJ μ law L) (hW : hm_ln μ 109 = 8) : (∃ k ρ1, k < 100000 ∧ D9 L ρ d x y (Int32.ofNat k) ρ1 ∧ DW ρ1 ∧ (∀ k, 25 ≤ k → ρ1 k = ρ k) ∧ ∀ m u, m.1 181 = ρ → m.1 179 33 = Int32.ofNat u → u ≤ 16 → ∃ mq mk m1, fq m mq ∧ f_X10_keeps (Int32.ofNat d) mq = some mk ∧ F10 d (sm x) (sm y) m = some (Int32.ofNat k, m1) ∧ fr mk m1 ∧ m1.1 181 = ρ1) ∨ ∃ ans ans', rk ans ∧ D9 L ρ d x y ans ρ ∧ rk ans' ∧ ∀ m, m.1 181 = ρ → ∃ m1, F10 d (sm x) (sm y) m = some (ans', m1) ∧ fq m m1 := by
  have same : (∀ m, F10 d (sm x) (sm y) m = F10 d x y m) → (∃ k ρ1, k < 100000 ∧ D9 L ρ d x y (Int32.ofNat k) ρ1 ∧ DW ρ1 ∧ (∀ k, 25 ≤ k → ρ1 k = ρ k) ∧ ∀ m u, m.1 181 = ρ → m.1 179 33 = Int32.ofNat u → u ≤ 16 → ∃ mq mk m1, fq m mq ∧ f_X10_keeps (Int32.ofNat d) mq = some mk ∧ F10 d (sm x) (sm y) m = some (Int32.ofNat k, m1) ∧ fr mk m1 ∧ m1.1 181 = ρ1) ∨ ∃ ans ans', rk ans ∧ D9 L ρ d x y ans ρ ∧ rk ans' ∧ ∀ m, m.1 181 = ρ → ∃ m1, F10 d (sm x) (sm y) m = some (ans', m1) ∧ fq m m1 := by
    intro e
    simp only [e]
    obtain ⟨ans, ρ1, d9, d10⟩ := deed_all (L := L) hd hD hF x y
    rcases d10 with ⟨k1, -, -, rfl, k2⟩ | ⟨⟨k, rfl, hk⟩, hD1, he, k2⟩
    · exact Or.inr ⟨ans, ans, k1, d9, k1, k2⟩
    · exact Or.inl ⟨k, ρ1, hk, d9, hD1, he, k2⟩
  by_cases h3 : d = 3
  · exact same fun m => by rw [h3, F10_3, F10_3]
  · by_cases ho : smL x ∧ smL y
    · exact same fun m => by rw [sm_id ho.1, sm_id ho.2]
    · have ho' : ¬ (smL (sm x) ∧ smL (sm y)) := fun z => by
        by_cases hx : smL x
        · exact sm_no (fun hy => ho ⟨hx, hy⟩) z.2
        · exact sm_no hx z.1
      obtain ⟨ans, ρ1, d9, d10⟩ := deed_all (L := L) hd hD hF x y
      obtain ⟨ans', ρ1', d9', d10'⟩ := deed_all (L := L) hd hD hF (sm x) (sm y)
      obtain ⟨a, μa, e1, n1⟩ := doOne_out (show d < 3 by omega) hD ho hV l1 hL hW
      obtain ⟨a', μa', e1', n1'⟩ := doOne_out (show d < 3 by omega) hD ho' hV l1 hL hW
      obtain ⟨μb, e2, -⟩ := d9 μ 65 law hV (by unfold vO; omega) (by omega) l1 hL hW
      obtain ⟨μb', e2', -⟩ := d9' μ 65 law hV (by unfold vO; omega) (by omega) l1 hL hW
      rw [e1] at e2
      rw [e1'] at e2'
      cases e2
      cases e2'
      rcases d10 with ⟨k1, -, -, rfl, k2⟩ | ⟨⟨k, rfl, hk⟩, -⟩
      · rcases d10' with ⟨k1', -, -, rfl, k2'⟩ | ⟨⟨k, rfl, hk⟩, -⟩
        · exact Or.inr ⟨_, _, k1, d9, k1', k2'⟩
        · exact absurd n1' (n_neq hk)
      · exact absurd n1 (n_neq hk)
/-- the reference obeys -/
theorem v_obeys {m : hm_M} {h : Nat} {a b : Int32} (hh : h < 4) (h49 : m.1 179 49 = Int32.ofNat (22 + 2 * h)) (ha : f_X10_small (m.2.1 203 0) = some a) (hb : f_X10_small (m.2.1 203 1) = some b) : f_X10_obeys m = hm_b2 (F10 h a b m) fun r m7 => some (r, if h = 0 ∧ 0 ≤ r then hm_wI m7 179 28 r else m7) := by
  have hh4 : h = 0 ∨ h = 1 ∨ h = 2 ∨ h = 3 := by omega
  unfold f_X10_obeys
  rw [show (0 : Int32) = Int32.ofNat 0 from rfl, ldJ_n (by omega) (by decide), Option.bind_some, ha, Option.bind_some, show (1 : Int32) = Int32.ofNat 1 from rfl, ldJ_n (by omega) (by decide), Option.bind_some, hb, Option.bind_some, h49]
  rcases hh4 with rfl | rfl | rfl | rfl
  · rw [if_pos (by decide)]
    show _ = hm_b2 (f_X10_takesKept a b m) _
    cases f_X10_takesKept a b m with
    | none => rfl
    | some q =>
      obtain ⟨r, m7⟩ := q
      rw [b2_some, b2_some]
      by_cases z : Int32.ofNat 0 ≤ r
      · rw [if_pos z, if_pos ⟨rfl, z⟩, pI_some, Option.bind_some]
      · rw [if_neg z, if_neg (fun y => z y.2), pI_some, Option.bind_some, wI_own rfl]
  · rw [if_neg (by decide), if_pos (by decide)]
    show hm_b2 (f_X10_loosesKept a b m) _ = hm_b2 (f_X10_loosesKept a b m) _
    congr 1
  · rw [if_neg (by decide), if_neg (by decide), if_neg (by decide), if_pos (by decide)]
    show hm_b2 (f_X10_walksKept a b m) _ = hm_b2 (f_X10_walksKept a b m) _
    congr 1
  · rw [if_neg (by decide), if_neg (by decide), if_neg (by decide), if_neg (by decide), if_neg (by decide), if_pos (by decide)]
    show hm_b2 (f_X10_passesKept m) _ = hm_b2 (f_X10_passesKept m) _
    congr 1
end
