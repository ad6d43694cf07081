theorem mo_ilt (w : WD) (X : XS) {u d : Nat} (hd : 0 < d) (b : Int) : MS w M_Mo_inLeastTerms [.inr (.inl (u : Int)), .inr (.inl (d : Int)), .inl b] X (fun z Y => Y = X ∧ z = if b = 0 then ((u / Nat.gcd u d : Nat) : Int) else ((d / Nat.gcd u d : Nat) : Int)) := by
  have hg : 0 < Nat.gcd u d := Nat.gcd_pos_of_pos_right _ hd
  refine mk_Mo_inLeastTerms rfl ?_
  refine tx_Mo_inLeastTerms 4 ?_
  have E : ∀ (y x : Nat) (l9 : Option V), Nat.gcd x y = Nat.gcd u d → Go w K_Mo_inLeastTerms 6 [some (.inr (.inl (u : Int))), none, some (.inr (.inl (d : Int))), none, some (.inl b), some (.inr (.inl (x : Int))), none, some (.inr (.inl (y : Int))), none, l9, none] [] X (fun z Y => Y = X ∧ z = if b = 0 then ((u / Nat.gcd u d : Nat) : Int) else ((d / Nat.gcd u d : Nat) : Int)) := by
    intro y
    induction y using Nat.strongRecOn with
    | ind y ih =>
      intro x l9 hxy
      refine sx_Mo_inLeastTerms ?_
      refine ⟨fun q => ?_, fun q => ?_⟩
      · have q : (if (y : Int) < 0 then (-1 : Int) else if (y : Int) = 0 then 0 else 1) = 0 := q
        have e : y = 0 := by
          by_cases e : (y : Int) = 0
          · omega
          · rw [if_neg (show ¬ (y : Int) < 0 by omega), if_neg e] at q
            cases q
        subst e
        rw [Nat.gcd_zero_right] at hxy
        subst hxy
        refine sx_Mo_inLeastTerms ?_
        refine ⟨fun q2 => ?_, fun q2 => ?_⟩
        · have q2 : b ≠ 0 := q2
          rw [if_neg q2]
          refine sx_Mo_inLeastTerms ?_
          exact ⟨(by omega), (by omega), rfl, rfl⟩
        · have q2 : b = 0 := q2
          rw [if_pos q2]
          refine ⟨(by omega), (by omega), ?_⟩
          refine sx_Mo_inLeastTerms ?_
          exact ⟨rfl, rfl⟩
      · have q : (if (y : Int) < 0 then (-1 : Int) else if (y : Int) = 0 then 0 else 1) ≠ 0 := q
        have e : 0 < y := by
          by_cases e : y = 0
          · subst e; exact absurd rfl q
          · omega
        refine ⟨(by omega), (by omega), ?_⟩
        exact ih (x % y) (Nat.mod_lt x e) y (some (.inr (.inl ((x : Int) % (y : Int))))) (by rw [← hxy, Nat.gcd_comm y, ← Nat.gcd_rec, Nat.gcd_comm])
  exact E d u none rfl
