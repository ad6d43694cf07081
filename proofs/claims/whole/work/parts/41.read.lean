/-! ===== reading a field's text: the mathematics ===== -/
abbrev tk (f : Nat → Int) (n p : Nat) (l h : Int) : Prop := p < n ∧ l ≤ f p ∧ f p ≤ h
def kdO (z : Int) : Int := if z = 109 then 0 else if z = 108 then 1 else if z = 97 then 2 else -9
theorem kdO_rng (z : Int) : kdO z = -9 ∨ (0 ≤ kdO z ∧ kdO z ≤ 2) := by
  unfold kdO
  by_cases h1 : z = 109
  · rw [if_pos h1]; omega
  · rw [if_neg h1]
    by_cases h2 : z = 108
    · rw [if_pos h2]; omega
    · rw [if_neg h2]
      by_cases h3 : z = 97
      · rw [if_pos h3]; omega
      · rw [if_neg h3]; omega
/-- how many codes of a man are there -/
def mln (f : Nat → Int) (n p c : Nat) : Nat := if (p < n ∧ c < 8) ∧ kdO (f p) ≠ -9 then (if tk f n (p + 1) 48 49 then (if tk f n (p + 2) 49 57 then (if tk f n (p + 3) 49 57 then 4 else 3) else 2) else 1) else 0
theorem mln_le (f : Nat → Int) (n p c : Nat) : mln f n p c ≤ 4 := by
  unfold mln
  by_cases h1 : (p < n ∧ c < 8) ∧ kdO (f p) ≠ -9
  · rw [if_pos h1]
    by_cases h2 : tk f n (p + 1) 48 49
    · rw [if_pos h2]
      by_cases h3 : tk f n (p + 2) 49 57
      · rw [if_pos h3]
        by_cases h4 : tk f n (p + 3) 49 57
        · rw [if_pos h4]; omega
        · rw [if_neg h4]; omega
      · rw [if_neg h3]; omega
    · rw [if_neg h2]; omega
  · rw [if_neg h1]; omega
theorem mln_n {f : Nat → Int} {n p c : Nat} (hp : p ≤ n) : p + mln f n p c ≤ n := by
  unfold mln
  by_cases h1 : (p < n ∧ c < 8) ∧ kdO (f p) ≠ -9
  · rw [if_pos h1]
    by_cases h2 : tk f n (p + 1) 48 49
    · rw [if_pos h2]
      by_cases h3 : tk f n (p + 2) 49 57
      · rw [if_pos h3]
        by_cases h4 : tk f n (p + 3) 49 57
        · rw [if_pos h4]; omega
        · rw [if_neg h4]; omega
      · rw [if_neg h3]; omega
    · rw [if_neg h2]; omega
  · rw [if_neg h1]; omega
theorem mln_4 {f : Nat → Int} {n p c : Nat} (h : mln f n p c = 4) : ((p < n ∧ c < 8) ∧ kdO (f p) ≠ -9) ∧ tk f n (p + 1) 48 49 ∧ tk f n (p + 2) 49 57 ∧ tk f n (p + 3) 49 57 := by
  unfold mln at h
  by_cases h1 : (p < n ∧ c < 8) ∧ kdO (f p) ≠ -9
  · rw [if_pos h1] at h
    by_cases h2 : tk f n (p + 1) 48 49
    · rw [if_pos h2] at h
      by_cases h3 : tk f n (p + 2) 49 57
      · rw [if_pos h3] at h
        by_cases h4 : tk f n (p + 3) 49 57
        · exact ⟨h1, h2, h3, h4⟩
        · rw [if_neg h4] at h; omega
      · rw [if_neg h3] at h; omega
    · rw [if_neg h2] at h; omega
  · rw [if_neg h1] at h; omega
/-- bad, place, men, what they are -/
abbrev RS : Type := Int × Nat × Nat × (Nat → Nat → Int)
def uM (f : Nat → Int) (p m c : Nat) (M : Nat → Nat → Int) : Nat → Nat → Int := fun j a => if j = m then (if a = 0 then kdO (f p) else if a = 1 then f (p + 1) - 48 else if a = 2 then f (p + 2) - 48 else if a = 3 then f (p + 3) - 48 else (c : Int)) else M j a
def s59 (f : Nat → Int) (n w c : Nat) (s : RS) : RS := if s.1 ≠ 0 then s else if c % w = 0 then (if tk f n s.2.1 59 59 then (0, s.2.1 + 1, s.2.2) else (1, s.2)) else s
def bdy (f : Nat → Int) (n c : Nat) (s : RS) : RS := if s.1 ≠ 0 then s else if tk f n s.2.1 46 46 then (0, s.2.1 + 1, s.2.2) else if mln f n s.2.1 s.2.2.1 = 4 then (0, s.2.1 + 4, s.2.2.1 + 1, uM f s.2.1 s.2.2.1 c s.2.2.2) else (1, s.2.1 + mln f n s.2.1 s.2.2.1, s.2.2)
def rd (f : Nat → Int) (n w : Nat) : Nat → RS
  | 0 => (0, 3, 0, fun _ _ => 0)
  | c + 1 => bdy f n c (s59 f n w c (rd f n w c))
theorem rd_s (f : Nat → Int) (n w c : Nat) : rd f n w (c + 1) = bdy f n c (s59 f n w c (rd f n w c)) := rfl
/-- what holds of all that is read -/
def RI (n c : Nat) (s : RS) : Prop := (s.1 = 0 ∨ s.1 = 1) ∧ s.2.1 ≤ n ∧ s.2.2.1 ≤ 8 ∧ ∀ j, j < s.2.2.1 → (0 ≤ s.2.2.2 j 0 ∧ s.2.2.2 j 0 ≤ 2) ∧ (0 ≤ s.2.2.2 j 1 ∧ s.2.2.2 j 1 ≤ 1) ∧ (1 ≤ s.2.2.2 j 2 ∧ s.2.2.2 j 2 ≤ 9) ∧ (1 ≤ s.2.2.2 j 3 ∧ s.2.2.2 j 3 ≤ 9) ∧ 0 ≤ s.2.2.2 j 4 ∧ s.2.2.2 j 4 < (c : Int)
theorem s59_ri {f : Nat → Int} {n w c : Nat} {s : RS} (h : RI n c s) : RI n c (s59 f n w c s) := by
  unfold s59
  by_cases h1 : s.1 ≠ 0
  · rw [if_pos h1]; exact h
  · rw [if_neg h1]
    by_cases h2 : c % w = 0
    · rw [if_pos h2]
      by_cases h3 : tk f n s.2.1 59 59
      · rw [if_pos h3]; exact ⟨Or.inl rfl, h3.1, h.2.2⟩
      · rw [if_neg h3]; exact ⟨Or.inr rfl, h.2⟩
    · rw [if_neg h2]; exact h
theorem bdy_ri {f : Nat → Int} {n c : Nat} {s : RS} (h : RI n c s) : RI n (c + 1) (bdy f n c s) := by
  obtain ⟨g1, g2, g3, g4⟩ := h
  have g4' : ∀ j, j < s.2.2.1 → (0 ≤ s.2.2.2 j 0 ∧ s.2.2.2 j 0 ≤ 2) ∧ (0 ≤ s.2.2.2 j 1 ∧ s.2.2.2 j 1 ≤ 1) ∧ (1 ≤ s.2.2.2 j 2 ∧ s.2.2.2 j 2 ≤ 9) ∧ (1 ≤ s.2.2.2 j 3 ∧ s.2.2.2 j 3 ≤ 9) ∧ 0 ≤ s.2.2.2 j 4 ∧ s.2.2.2 j 4 < ((c + 1 : Nat) : Int) := fun j hj => by
    have := g4 j hj
    omega
  unfold bdy
  by_cases h1 : s.1 ≠ 0
  · rw [if_pos h1]; exact ⟨g1, g2, g3, g4'⟩
  · rw [if_neg h1]
    by_cases h2 : tk f n s.2.1 46 46
    · rw [if_pos h2]; exact ⟨Or.inl rfl, h2.1, g3, g4'⟩
    · rw [if_neg h2]
      by_cases h3 : mln f n s.2.1 s.2.2.1 = 4
      · rw [if_pos h3]
        have hk := kdO_rng (f s.2.1)
        obtain ⟨⟨⟨a1, a2⟩, a3⟩, a4, a5, a6⟩ := mln_4 h3
        refine ⟨Or.inl rfl, by show s.2.1 + 4 ≤ n; omega, by show s.2.2.1 + 1 ≤ 8; omega, fun j hj => ?_⟩
        have hj : j < s.2.2.1 + 1 := hj
        show (0 ≤ uM f s.2.1 s.2.2.1 c s.2.2.2 j 0 ∧ uM f s.2.1 s.2.2.1 c s.2.2.2 j 0 ≤ 2) ∧ (0 ≤ uM f s.2.1 s.2.2.1 c s.2.2.2 j 1 ∧ uM f s.2.1 s.2.2.1 c s.2.2.2 j 1 ≤ 1) ∧ (1 ≤ uM f s.2.1 s.2.2.1 c s.2.2.2 j 2 ∧ uM f s.2.1 s.2.2.1 c s.2.2.2 j 2 ≤ 9) ∧ (1 ≤ uM f s.2.1 s.2.2.1 c s.2.2.2 j 3 ∧ uM f s.2.1 s.2.2.1 c s.2.2.2 j 3 ≤ 9) ∧ 0 ≤ uM f s.2.1 s.2.2.1 c s.2.2.2 j 4 ∧ uM f s.2.1 s.2.2.1 c s.2.2.2 j 4 < ((c + 1 : Nat) : Int)
        by_cases e : j = s.2.2.1
        · subst e
          simp only [uM, if_true]
          simp
          omega
        · simp only [uM, if_neg e]
          exact g4' j (by omega)
      · rw [if_neg h3]
        exact ⟨Or.inr rfl, mln_n g2, g3, g4'⟩
theorem rd_ri {f : Nat → Int} {n w : Nat} (hn : 3 ≤ n) : ∀ c, RI n c (rd f n w c)
  | 0 => ⟨Or.inl rfl, hn, Nat.zero_le 8, fun j hj => absurd hj (Nat.not_lt_zero j)⟩
  | c + 1 => bdy_ri (s59_ri (rd_ri hn c))
theorem s59_bad {f : Nat → Int} {n w c : Nat} {s : RS} (h : s.1 ≠ 0) : s59 f n w c s = s := by unfold s59; rw [if_pos h]
theorem bdy_bad {f : Nat → Int} {n c : Nat} {s : RS} (h : s.1 ≠ 0) : bdy f n c s = s := by unfold bdy; rw [if_pos h]
theorem rd_bad {f : Nat → Int} {n w c : Nat} (h : (rd f n w c).1 ≠ 0) : ∀ k, rd f n w (c + k) = rd f n w c
  | 0 => rfl
  | k + 1 => by
    have ih := rd_bad h k
    rw [show c + (k + 1) = c + k + 1 by omega, rd_s, ih, s59_bad h, bdy_bad h]
