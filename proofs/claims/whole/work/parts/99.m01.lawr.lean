section
/-! A new law beside its text. -/
theorem vlc_end {T : Nat → Nat} {n k : Nat} (h : tmy T n ≤ k) : vlc T n k = 0 := by
  have y : ¬ tst T n k < n := fun z => by
    have := (tmy_lt (T := T) (n := n) (k := k)).2 z
    omega
  exact if_neg fun z => y z.1
theorem lawr_new {T : Nat → Nat} {n : Nat} {C : pc_C} {L : List pc_K} {ops args cls code value : Nat → Int32} (hn : n ≤ 400) (hT : ∀ i, i < n → T i < 256) (h : pc_text false (tkc T n) (vlc T n) (tmy T n) 12 0 0 [] [] = .ok (C, L)) (hc : ∀ k, k < tmy T n → code k = Int32.ofNat (tkc T n k) ∧ value k = Int32.ofNat (vlc T n k)) (hl : lawc C L ops args cls) : lawr ops args cls (Int32.ofNat C.length) (Int32.ofNat L.length) code value (Int32.ofNat (tmy T n)) := by
  have hm := (tmy_p T n).2.2
  have en : nat (Int32.ofNat (tmy T n)) = tmy T n := nat_n (by omega)
  have e1 : tkf code (tmy T n) = tkc T n := funext fun k => by
    unfold tkf
    have := tkc_lt hT k
    by_cases y : k < tmy T n
    · rw [if_pos y, (hc k y).1, nat_n (by omega)]
    · rw [if_neg y, tkc_end (by omega)]
  have e2 : tkf value (tmy T n) = vlc T n := funext fun k => by
    unfold tkf
    have := vlc_lt (T := T) (n := n) k
    by_cases y : k < tmy T n
    · rw [if_pos y, (hc k y).2, nat_n (by omega)]
    · rw [if_neg y, vlc_end (by omega)]
  unfold lawr
  rw [en, e1, e2]
  refine ⟨bd_n (by omega) (by omega), fun k hk => ?_, C, L, h, ⟨rfl, rfl⟩, hl⟩
  have t1 := tkc_lt hT k
  have t2 := vlc_lt (T := T) (n := n) k
  rw [(hc k hk).1, (hc k hk).2]
  exact ⟨bd_n (by omega) (by omega), bd_n (by omega) (by omega)⟩
end
