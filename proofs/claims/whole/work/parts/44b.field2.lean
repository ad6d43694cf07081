theorem ix5j {j : Nat} (hj : j < 8) : wr (5 * (j : Int)) = ((5 * j : Nat) : Int) := by
  rw [wr_id (by omega) (by omega)]; omega
theorem ix5a {j : Nat} (a : Nat) (hj : j < 8) (ha : a ≤ 4) : wr (wr (5 * (j : Int)) + (a : Int)) = ((5 * j + a : Nat) : Int) := by
  rw [ix5j hj, wr_id (by omega) (by omega)]; omega
theorem ix5c {j : Nat} (a : Nat) (hj : j < 8) (ha : a ≤ 4) : 0 ≤ wr (wr (5 * (j : Int)) + (a : Int)) ∧ wr (wr (5 * (j : Int)) + (a : Int)) < ((40 : Nat) : Int) := by
  rw [ix5a a hj ha]; omega
theorem ix5d {j : Nat} (hj : j < 8) : 0 ≤ wr (5 * (j : Int)) ∧ wr (5 * (j : Int)) < ((40 : Nat) : Int) := by
  rw [ix5j hj]; omega
theorem mo_copyMan (w : WD) {k i n j : Nat} {b F : Int} (hj : j < 8) {Z : XS} {Q : Int → XS → Prop} (hG : Go w K_Mo_field 208 [some (.inr (.inr (7, 43))), some (.inl (k : Int)), some (.inl b), some (.inl (i : Int)), some (.inl (n : Int)), some (.inl 0), some (.inl F), some (.inl (j : Int))] [] (up (up (up (up (up Z.1 47 j (Z.1 52 (5 * j))) 48 j (Z.1 52 (5 * j + 1))) 49 j (Z.1 52 (5 * j + 2))) 50 j (Z.1 52 (5 * j + 3))) 51 j (Z.1 52 (5 * j + 4)), Z.2) Q) : Go w K_Mo_field 120 [some (.inr (.inr (7, 43))), some (.inl (k : Int)), some (.inl b), some (.inl (i : Int)), some (.inl (n : Int)), some (.inl 0), some (.inl F), some (.inl (j : Int))] [] Z Q := by
  have T120 : ∀ Z : XS, Go w K_Mo_field 136 [some (.inr (.inr (7, 43))), some (.inl (k : Int)), some (.inl b), some (.inl (i : Int)), some (.inl (n : Int)), some (.inl 0), some (.inl F), some (.inl (j : Int))] [] (up Z.1 47 j (Z.1 52 (5 * j)), Z.2) Q → Go w K_Mo_field 120 [some (.inr (.inr (7, 43))), some (.inl (k : Int)), some (.inl b), some (.inl (i : Int)), some (.inl (n : Int)), some (.inl 0), some (.inl F), some (.inl (j : Int))] [] Z Q := by
    intro Z hg
    refine tx_Mo_field 10 ?_
    refine ⟨(ix5d hj).1, (ix5d hj).2, (by omega), (by show _ < ((9 : Nat) : Int); omega), ?_⟩
    show Go w K_Mo_field 136 [some (.inr (.inr (7, 43))), some (.inl (k : Int)), some (.inl b), some (.inl (i : Int)), some (.inl (n : Int)), some (.inl 0), some (.inl F), some (.inl (j : Int))] [] (up Z.1 47 j (Z.1 52 (wr (5 * (j : Int))).toNat), Z.2) Q
    rw [ix5j hj, Int.toNat_natCast]
    exact hg
  have T136 : ∀ Z : XS, Go w K_Mo_field 154 [some (.inr (.inr (7, 43))), some (.inl (k : Int)), some (.inl b), some (.inl (i : Int)), some (.inl (n : Int)), some (.inl 0), some (.inl F), some (.inl (j : Int))] [] (up Z.1 48 j (Z.1 52 (5 * j + 1)), Z.2) Q → Go w K_Mo_field 136 [some (.inr (.inr (7, 43))), some (.inl (k : Int)), some (.inl b), some (.inl (i : Int)), some (.inl (n : Int)), some (.inl 0), some (.inl F), some (.inl (j : Int))] [] Z Q := by
    intro Z hg
    refine tx_Mo_field 12 ?_
    refine ⟨(ix5c 1 hj (by omega)).1, (ix5c 1 hj (by omega)).2, (by omega), (by show _ < ((9 : Nat) : Int); omega), ?_⟩
    show Go w K_Mo_field 154 [some (.inr (.inr (7, 43))), some (.inl (k : Int)), some (.inl b), some (.inl (i : Int)), some (.inl (n : Int)), some (.inl 0), some (.inl F), some (.inl (j : Int))] [] (up Z.1 48 j (Z.1 52 (wr (wr (5 * (j : Int)) + ((1 : Nat) : Int))).toNat), Z.2) Q
    rw [ix5a 1 hj (by omega), Int.toNat_natCast]
    exact hg
  have T154 : ∀ Z : XS, Go w K_Mo_field 172 [some (.inr (.inr (7, 43))), some (.inl (k : Int)), some (.inl b), some (.inl (i : Int)), some (.inl (n : Int)), some (.inl 0), some (.inl F), some (.inl (j : Int))] [] (up Z.1 49 j (Z.1 52 (5 * j + 2)), Z.2) Q → Go w K_Mo_field 154 [some (.inr (.inr (7, 43))), some (.inl (k : Int)), some (.inl b), some (.inl (i : Int)), some (.inl (n : Int)), some (.inl 0), some (.inl F), some (.inl (j : Int))] [] Z Q := by
    intro Z hg
    refine tx_Mo_field 12 ?_
    refine ⟨(ix5c 2 hj (by omega)).1, (ix5c 2 hj (by omega)).2, (by omega), (by show _ < ((9 : Nat) : Int); omega), ?_⟩
    show Go w K_Mo_field 172 [some (.inr (.inr (7, 43))), some (.inl (k : Int)), some (.inl b), some (.inl (i : Int)), some (.inl (n : Int)), some (.inl 0), some (.inl F), some (.inl (j : Int))] [] (up Z.1 49 j (Z.1 52 (wr (wr (5 * (j : Int)) + ((2 : Nat) : Int))).toNat), Z.2) Q
    rw [ix5a 2 hj (by omega), Int.toNat_natCast]
    exact hg
  have T172 : ∀ Z : XS, Go w K_Mo_field 190 [some (.inr (.inr (7, 43))), some (.inl (k : Int)), some (.inl b), some (.inl (i : Int)), some (.inl (n : Int)), some (.inl 0), some (.inl F), some (.inl (j : Int))] [] (up Z.1 50 j (Z.1 52 (5 * j + 3)), Z.2) Q → Go w K_Mo_field 172 [some (.inr (.inr (7, 43))), some (.inl (k : Int)), some (.inl b), some (.inl (i : Int)), some (.inl (n : Int)), some (.inl 0), some (.inl F), some (.inl (j : Int))] [] Z Q := by
    intro Z hg
    refine tx_Mo_field 12 ?_
    refine ⟨(ix5c 3 hj (by omega)).1, (ix5c 3 hj (by omega)).2, (by omega), (by show _ < ((9 : Nat) : Int); omega), ?_⟩
    show Go w K_Mo_field 190 [some (.inr (.inr (7, 43))), some (.inl (k : Int)), some (.inl b), some (.inl (i : Int)), some (.inl (n : Int)), some (.inl 0), some (.inl F), some (.inl (j : Int))] [] (up Z.1 50 j (Z.1 52 (wr (wr (5 * (j : Int)) + ((3 : Nat) : Int))).toNat), Z.2) Q
    rw [ix5a 3 hj (by omega), Int.toNat_natCast]
    exact hg
  have T190 : ∀ Z : XS, Go w K_Mo_field 208 [some (.inr (.inr (7, 43))), some (.inl (k : Int)), some (.inl b), some (.inl (i : Int)), some (.inl (n : Int)), some (.inl 0), some (.inl F), some (.inl (j : Int))] [] (up Z.1 51 j (Z.1 52 (5 * j + 4)), Z.2) Q → Go w K_Mo_field 190 [some (.inr (.inr (7, 43))), some (.inl (k : Int)), some (.inl b), some (.inl (i : Int)), some (.inl (n : Int)), some (.inl 0), some (.inl F), some (.inl (j : Int))] [] Z Q := by
    intro Z hg
    refine tx_Mo_field 12 ?_
    refine ⟨(ix5c 4 hj (by omega)).1, (ix5c 4 hj (by omega)).2, (by omega), (by show _ < ((9 : Nat) : Int); omega), ?_⟩
    show Go w K_Mo_field 208 [some (.inr (.inr (7, 43))), some (.inl (k : Int)), some (.inl b), some (.inl (i : Int)), some (.inl (n : Int)), some (.inl 0), some (.inl F), some (.inl (j : Int))] [] (up Z.1 51 j (Z.1 52 (wr (wr (5 * (j : Int)) + ((4 : Nat) : Int))).toNat), Z.2) Q
    rw [ix5a 4 hj (by omega), Int.toNat_natCast]
    exact hg
  refine T120 _ (T136 _ (T154 _ (T172 _ (T190 _ ?_))))
  exact hG
theorem FL.step {h v : Nat} {s : RS} {Y Z : XS} {t : Nat} (ht : t < s.2.2.1) (g : FL h v s Y t Z) : FL h v s Y (t + 1) (up (up (up (up (up Z.1 47 t (Z.1 52 (5 * t))) 48 t (Z.1 52 (5 * t + 1))) 49 t (Z.1 52 (5 * t + 2))) 50 t (Z.1 52 (5 * t + 3))) 51 t (Z.1 52 (5 * t + 4)), Z.2) := by
  obtain ⟨g1, g2, g3, g4, g5, g6⟩ := g
  have R : ∀ r, r < 47 ∨ 51 < r → up (up (up (up (up Z.1 47 t (Z.1 52 (5 * t))) 48 t (Z.1 52 (5 * t + 1))) 49 t (Z.1 52 (5 * t + 2))) 50 t (Z.1 52 (5 * t + 3))) 51 t (Z.1 52 (5 * t + 4)) r = Z.1 r := fun r hr => by rw [up_ne (by omega), up_ne (by omega), up_ne (by omega), up_ne (by omega), up_ne (by omega)]
  have e0 := g5 t ht 0 (by decide)
  have e1 := g5 t ht 1 (by decide)
  have e2 := g5 t ht 2 (by decide)
  have e3 := g5 t ht 3 (by decide)
  have e4 := g5 t ht 4 (by decide)
  rw [Nat.add_zero] at e0
  have V : ∀ j, j < t + 1 → up (up (up (up (up Z.1 47 t (Z.1 52 (5 * t))) 48 t (Z.1 52 (5 * t + 1))) 49 t (Z.1 52 (5 * t + 2))) 50 t (Z.1 52 (5 * t + 3))) 51 t (Z.1 52 (5 * t + 4)) 47 j = s.2.2.2 j 0 ∧ up (up (up (up (up Z.1 47 t (Z.1 52 (5 * t))) 48 t (Z.1 52 (5 * t + 1))) 49 t (Z.1 52 (5 * t + 2))) 50 t (Z.1 52 (5 * t + 3))) 51 t (Z.1 52 (5 * t + 4)) 48 j = s.2.2.2 j 1 ∧ up (up (up (up (up Z.1 47 t (Z.1 52 (5 * t))) 48 t (Z.1 52 (5 * t + 1))) 49 t (Z.1 52 (5 * t + 2))) 50 t (Z.1 52 (5 * t + 3))) 51 t (Z.1 52 (5 * t + 4)) 49 j = s.2.2.2 j 2 ∧ up (up (up (up (up Z.1 47 t (Z.1 52 (5 * t))) 48 t (Z.1 52 (5 * t + 1))) 49 t (Z.1 52 (5 * t + 2))) 50 t (Z.1 52 (5 * t + 3))) 51 t (Z.1 52 (5 * t + 4)) 50 j = s.2.2.2 j 3 ∧ up (up (up (up (up Z.1 47 t (Z.1 52 (5 * t))) 48 t (Z.1 52 (5 * t + 1))) 49 t (Z.1 52 (5 * t + 2))) 50 t (Z.1 52 (5 * t + 3))) 51 t (Z.1 52 (5 * t + 4)) 51 j = s.2.2.2 j 4 := by
    intro j hj
    refine ⟨?_, ?_, ?_, ?_, ?_⟩
    · rw [up_ne (by omega), up_ne (by omega), up_ne (by omega), up_ne (by omega), up_row]
      by_cases e : j = t
      · subst e; rw [u1_s]; exact e0
      · rw [u1_n e]; exact (g6 j (by omega)).1
    · rw [up_ne (by omega), up_ne (by omega), up_ne (by omega), up_row, up_ne (by omega)]
      by_cases e : j = t
      · subst e; rw [u1_s]; exact e1
      · rw [u1_n e]; exact (g6 j (by omega)).2.1
    · rw [up_ne (by omega), up_ne (by omega), up_row, up_ne (by omega), up_ne (by omega)]
      by_cases e : j = t
      · subst e; rw [u1_s]; exact e2
      · rw [u1_n e]; exact (g6 j (by omega)).2.2.1
    · rw [up_ne (by omega), up_row, up_ne (by omega), up_ne (by omega), up_ne (by omega)]
      by_cases e : j = t
      · subst e; rw [u1_s]; exact e3
      · rw [u1_n e]; exact (g6 j (by omega)).2.2.2.1
    · rw [up_row, up_ne (by omega), up_ne (by omega), up_ne (by omega), up_ne (by omega)]
      by_cases e : j = t
      · subst e; rw [u1_s]; exact e4
      · rw [u1_n e]; exact (g6 j (by omega)).2.2.2.2
  generalize up (up (up (up (up Z.1 47 t (Z.1 52 (5 * t))) 48 t (Z.1 52 (5 * t + 1))) 49 t (Z.1 52 (5 * t + 2))) 50 t (Z.1 52 (5 * t + 3))) 51 t (Z.1 52 (5 * t + 4)) = H at R V ⊢
  have R43 : H 43 = Z.1 43 := R 43 (by omega)
  have R52 : H 52 = Z.1 52 := R 52 (by omega)
  refine ⟨fun r hr => (R r (by omega)).trans (g1 r hr), g2, ?_, fun q hq => ?_, fun j hj a ha => ?_, V⟩
  · show H 43 5 = _ ∧ H 43 6 = _ ∧ H 43 7 = _
    rw [R43]; exact g3
  · show H 43 q = _
    rw [R43]; exact g4 q hq
  · show H 52 (5 * j + a) = _
    rw [R52]; exact g5 j hj a ha
