/-! ===== copy ===== -/
theorem ifc {c d : Prop} {i1 : Decidable c} {i2 : Decidable d} {x y : Int} (h : c ↔ d) : (if c then x else y) = if d then x else y := by
  by_cases q : c
  · rw [if_pos q, if_pos (h.mp q)]
  · rw [if_neg q, if_neg (fun z => q (h.mpr z))]
def CPR (X : XS) (k o i j n : Nat) (Y Z : XS) : Prop := Z.2 = Y.2 ∧ (∀ r, r ≠ 43 → r ≠ 46 → Z.1 r = Y.1 r) ∧ (∀ s, s ≠ 0 → Z.1 43 s = Y.1 43 s) ∧ Z.1 43 0 = 0 ∧ ∀ p, Z.1 46 p = if 60 * o + j ≤ p ∧ p < 60 * o + j + n then X.1 46 (60 * k + i + (p - (60 * o + j))) else X.1 46 p
def CPI (X : XS) (k o i j n : Nat) (a : Int) (q : Nat) (Y Z : XS) : Prop := Z.2 = Y.2 ∧ (∀ r, r ≠ 43 → r ≠ 46 → Z.1 r = Y.1 r) ∧ (∀ s, s ≠ 0 → Z.1 43 s = Y.1 43 s) ∧ Z.1 43 0 = 0 ∧ ∀ p, Z.1 46 p = if (60 * o + j ≤ p ∧ p < 60 * o + j + n) ∧ (a = 1 ∧ n ≤ p - (60 * o + j) + q ∨ a = 0 ∧ p - (60 * o + j) < q) then X.1 46 (60 * k + i + (p - (60 * o + j))) else X.1 46 p
theorem CPI.step {X : XS} {k o i j n : Nat} {a : Int} {q c : Nat} {Y Z : XS} (h : CPI X k o i j n a q Y Z) (hk : k < 4) (ho : o < 4) (hi : i + n ≤ 60) (hj : j + n ≤ 60) (hq : q < n) (ha : a = 1 ∧ i < j ∨ a = 0 ∧ j ≤ i) (hc : a = 1 ∧ c + 1 + q = n ∨ a = 0 ∧ c = q) : CPI X k o i j n a (q + 1) Y (up Z.1 46 (60 * o + j + c) (Z.1 46 (60 * k + i + c)), Z.2) := by
  obtain ⟨h1, h2, h3, h4, h5⟩ := h
  have e : Z.1 46 (60 * k + i + c) = X.1 46 (60 * k + i + c) := by
    rw [h5, if_neg (by omega)]
  refine ⟨h1, fun r p1 p2 => (up_ne p2).trans (h2 r p1 p2), fun s hs => ?_, ?_, fun p => ?_⟩
  · show up Z.1 46 (60 * o + j + c) (Z.1 46 (60 * k + i + c)) 43 s = _
    rw [up_ne (by omega)]; exact h3 s hs
  · show up Z.1 46 (60 * o + j + c) (Z.1 46 (60 * k + i + c)) 43 0 = _
    rw [up_ne (by omega)]; exact h4
  · show up Z.1 46 (60 * o + j + c) (Z.1 46 (60 * k + i + c)) 46 p = _
    rw [up_row, e]
    by_cases hp : p = 60 * o + j + c
    · subst hp
      rw [u1_s, if_pos (by omega), show 60 * k + i + (60 * o + j + c - (60 * o + j)) = 60 * k + i + c by omega]
    · rw [u1_n hp, h5]
      have E : ((60 * o + j ≤ p ∧ p < 60 * o + j + n) ∧ (a = 1 ∧ n ≤ p - (60 * o + j) + q ∨ a = 0 ∧ p - (60 * o + j) < q)) ↔ ((60 * o + j ≤ p ∧ p < 60 * o + j + n) ∧ (a = 1 ∧ n ≤ p - (60 * o + j) + (q + 1) ∨ a = 0 ∧ p - (60 * o + j) < q + 1)) := by omega
      exact ifc E
theorem CPI.fin {X : XS} {k o i j n : Nat} {a : Int} {Y Z : XS} (h : CPI X k o i j n a n Y Z) (ha : a = 1 ∧ i < j ∨ a = 0 ∧ j ≤ i) : CPR X k o i j n Y Z := by
  obtain ⟨h1, h2, h3, h4, h5⟩ := h
  refine ⟨h1, h2, h3, h4, fun p => ?_⟩
  have E : ((60 * o + j ≤ p ∧ p < 60 * o + j + n) ∧ (a = 1 ∧ n ≤ p - (60 * o + j) + n ∨ a = 0 ∧ p - (60 * o + j) < n)) ↔ (60 * o + j ≤ p ∧ p < 60 * o + j + n) := by omega
  rw [h5]
  exact ifc E
theorem ix63 {k i c : Nat} (hk : k < 4) (hi : i + c < 60) : wr (wr (wr (60 * (k : Int)) + (i : Int)) + (c : Int)) = ((60 * k + i + c : Nat) : Int) := by
  rw [wr_id (z := 60 * (k : Int)) (by omega) (by omega), wr_id (z := 60 * (k : Int) + (i : Int)) (by omega) (by omega), wr_id (by omega) (by omega)]; omega
theorem ix63b {k i c : Nat} (hk : k < 4) (hi : i + c < 60) : (0 : Int) ≤ wr (wr (wr (60 * (k : Int)) + (i : Int)) + (c : Int)) ∧ wr (wr (wr (60 * (k : Int)) + (i : Int)) + (c : Int)) < ((240 : Nat) : Int) := by
  rw [ix63 hk hi]; omega
theorem mo_copy1 (w : WD) {X Y : XS} (g : RM X Y) {k o i j n : Nat} (hk : k < 4) (ho : o < 4) (l : X.1 44 k ≠ -9) (l2 : X.1 44 o = X.1 44 k) (hi : (i : Int) + (n : Int) ≤ X.1 45 k) (hj : (j : Int) + (n : Int) ≤ X.1 45 o) (s1 : X.1 45 k ≤ 60) (s2 : X.1 45 o ≤ 60) : MS w M_Mo_copy [.inr (.inr (7, 43)), .inl (k : Int), .inl (i : Int), .inl (o : Int), .inl (j : Int), .inl (n : Int)] Y (fun z Z => CPR X k o i j n Y Z ∧ z = (n : Int)) := by
  have r44 : ∀ s, up Y.1 43 0 0 44 s = X.1 44 s := fun s => by rw [up_ne (by omega), g 44 (by omega)]
  have r45 : ∀ s, up Y.1 43 0 0 45 s = X.1 45 s := fun s => by rw [up_ne (by omega), g 45 (by omega)]
  have r46 : up Y.1 43 0 0 46 = X.1 46 := by rw [up_ne (by omega), g 46 (by omega)]
  have hi' : i + n ≤ 60 := by omega
  have hj' : j + n ≤ 60 := by omega
  refine mk_Mo_copy rfl ?_
  refine sx_Mo_copy ?_
  refine ⟨trivial, _, mo_isSheet w _ (k : Int), fun z Z hq => ?_⟩
  obtain ⟨rfl, rfl⟩ := hq
  refine sx_Mo_copy ?_
  refine ⟨fun q => absurd (show 0 ≤ (k : Int) ∧ (k : Int) ≤ 3 by omega) (nif q), fun _ => ?_⟩
  refine ⟨trivial, _, mo_isSheet w _ (o : Int), fun z Z hq => ?_⟩
  obtain ⟨rfl, rfl⟩ := hq
  refine sx_Mo_copy ?_
  refine ⟨fun _ => ?_, fun q => absurd (show 0 ≤ (o : Int) ∧ (o : Int) ≤ 3 by omega) (nif q)⟩
  refine sx_Mo_copy ?_
  refine ⟨(by omega), (by show _ < ((4 : Nat) : Int); omega), fun q => absurd ((r44 k).symm.trans q) l, fun _ => ?_⟩
  refine ⟨(by omega), (by show _ < ((4 : Nat) : Int); omega), fun _ => ?_, fun q => absurd ((r44 o).symm.trans q) (by rw [l2]; exact l)⟩
  refine sx_Mo_copy ?_
  refine ⟨(by omega), (by show _ < ((4 : Nat) : Int); omega), (by omega), (by show _ < ((4 : Nat) : Int); omega), fun _ => ?_, fun q => absurd (((r44 k).trans l2.symm).trans (r44 o).symm) q⟩
  refine sx_Mo_copy ?_
  refine ⟨fun q => absurd (show (i : Int) < 0 from q) (by omega), fun _ => ⟨fun q => absurd (show (j : Int) < 0 from q) (by omega), fun _ => ⟨fun q => absurd (show (n : Int) < 0 from q) (by omega), fun _ => ?_⟩⟩⟩
  refine ⟨(by omega), (by show _ < ((4 : Nat) : Int); omega), fun q => ?_, fun _ => ?_⟩
  · have q : up Y.1 43 0 0 45 k < (i : Int) := q
    rw [r45] at q
    omega
  refine ⟨(by omega), (by show _ < ((4 : Nat) : Int); omega), fun q => ?_, fun _ => ?_⟩
  · have q : up Y.1 43 0 0 45 o < (j : Int) := q
    rw [r45] at q
    omega
  refine sx_Mo_copy ?_
  refine ⟨fun q => absurd q (by decide), fun _ => ?_⟩
  refine ⟨(by omega), (by show _ < ((4 : Nat) : Int); omega), fun q => ?_, fun _ => ?_⟩
  · have q : wr (up Y.1 43 0 0 45 k - (i : Int)) < (n : Int) := q
    rw [r45, wr_id (by omega) (by omega)] at q
    omega
  refine ⟨(by omega), (by show _ < ((4 : Nat) : Int); omega), fun _ => ?_, fun q => ?_⟩
  case refine_2 =>
    have q : wr (up Y.1 43 0 0 45 o - (j : Int)) < (n : Int) := q
    rw [r45, wr_id (by omega) (by omega)] at q
    omega
  have L : ∀ a : Int, (a = 1 ∧ i < j ∨ a = 0 ∧ j ≤ i) → ∀ q, q ≤ n → ∀ (c : Int) (l9 : Option V) (Z : XS), c = (q : Int) → CPI X k o i j n a q Y Z → Go w K_Mo_copy 166 [some (.inr (.inr (7, 43))), some (.inl (k : Int)), some (.inl (i : Int)), some (.inl (o : Int)), some (.inl (j : Int)), some (.inl (n : Int)), some (.inl 1), some (.inl a), some (.inl c), l9] [] Z (fun z Z => CPR X k o i j n Y Z ∧ z = (n : Int)) := by
    intro a ha
    refine lp ?_
    intro q hq ih c l9 Z hc hI
    subst hc
    have T190 : q < n → ∀ (c : Nat) (d : Int), d = (c : Int) → (a = 1 ∧ c + 1 + q = n ∨ a = 0 ∧ c = q) → Go w K_Mo_copy 190 [some (.inr (.inr (7, 43))), some (.inl (k : Int)), some (.inl (i : Int)), some (.inl (o : Int)), some (.inl (j : Int)), some (.inl (n : Int)), some (.inl 1), some (.inl a), some (.inl (q : Int)), l9] [.inl d] Z (fun z Z => CPR X k o i j n Y Z ∧ z = (n : Int)) := by
      intro hqn c d hd hc
      subst hd
      have m1 : j + c < 60 := by omega
      have m2 : i + c < 60 := by omega
      have S := hI.step hk ho hi' hj' hqn ha hc
      refine sx_Mo_copy ?_
      refine ⟨(ix63b hk m2).1, (ix63b hk m2).2, (ix63b ho m1).1, (ix63b ho m1).2, ?_⟩
      rw [ix63 ho m1, ix63 hk m2, Int.toNat_natCast, Int.toNat_natCast]
      exact ih hqn _ _ _ (w1 rfl (by omega)) S
    refine sx_Mo_copy ?_
    refine ⟨fun p => ?_, fun p => ⟨fun p2 => ?_, fun p2 => ?_⟩⟩
    · have p : (n : Int) ≤ (q : Int) := p
      have e : q = n := by omega
      subst e
      refine sx_Mo_copy ?_
      exact ⟨trivial, hI.fin ha, rfl⟩
    · have p : (q : Int) < (n : Int) := p
      have p2 : a = 0 := p2
      refine tx_Mo_copy 1 ?_
      exact T190 (by omega) q _ rfl (Or.inr ⟨p2, rfl⟩)
    · have p : (q : Int) < (n : Int) := p
      have p2 : a ≠ 0 := p2
      refine T190 (by omega) (n - 1 - q) _ ?_ (Or.inl ⟨by omega, by omega⟩)
      rw [wr_id (z := (n : Int) - 1) (by omega) (by omega), wr_id (by omega) (by omega)]
      omega
  have I0 : ∀ a : Int, (a = 1 ∧ i < j ∨ a = 0 ∧ j ≤ i) → CPI X k o i j n a 0 Y (up Y.1 43 0 0, Y.2) := by
    intro a ha
    refine ⟨rfl, fun r p1 p2 => up_ne p1, fun s hs => ?_, ?_, fun p => ?_⟩
    · show up Y.1 43 0 0 43 s = _
      rw [up_row, u1_n hs]
    · show up Y.1 43 0 0 43 0 = _
      rw [up_row, u1_s]
    · show up Y.1 43 0 0 46 p = _
      rw [r46, if_neg (by omega)]
  refine sx_Mo_copy ?_
  refine ⟨fun p => ?_, fun p => ?_⟩
  · have p : (j : Int) ≤ (i : Int) := p
    refine tx_Mo_copy 4 ?_
    exact L 0 (Or.inr ⟨rfl, by omega⟩) 0 (Nat.zero_le _) _ _ _ rfl (I0 0 (Or.inr ⟨rfl, by omega⟩))
  · have p : (i : Int) < (j : Int) := p
    refine tx_Mo_copy 3 ?_
    exact L 1 (Or.inl ⟨rfl, by omega⟩) 0 (Nat.zero_le _) _ _ _ rfl (I0 1 (Or.inl ⟨rfl, by omega⟩))
