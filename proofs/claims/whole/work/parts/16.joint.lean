/-! ===== class and reference side by side ===== -/
def DM (X : XS) : FD := ((X.1 43 7).toNat, X.1 47, X.1 48, X.1 49, X.1 50, fun m o => fr (X.1 43 6) (X.1 51 m) (X.1 51 o))
abbrev nM (X : XS) : Nat := (X.1 43 7).toNat
abbrev nS (X : XS) : Nat := (X.1 43 19).toNat
abbrev nR (X : XS) : Nat := (X.1 43 29).toNat
def SS (X : XS) : List (Int × Int) := stl (X.1 53) (X.1 54) 0 (nS X)
def JS (X : XS) : Prop := ∀ k, k < 4 → (X.1 (3 + 2 * k) 1 = 0 ∧ X.1 44 k = -9) ∨ (X.1 (3 + 2 * k) 1 = 1 ∧ 0 ≤ X.1 44 k ∧ X.1 44 k ≤ 2 ∧ X.1 (3 + 2 * k) 2 = X.1 44 k ∧ X.1 (3 + 2 * k) 3 = X.1 45 k ∧ 0 ≤ X.1 45 k ∧ X.1 45 k ≤ 60 ∧ ∀ i, i < (X.1 45 k).toNat → X.1 (3 + 2 * k + 1) i = X.1 46 (60 * k + i))
def JR (X : XS) : Prop := (X.2 0 = 27 ∧ X.2 1 = 35) ∨ (X.2 0 = 35 ∧ X.2 1 = 27)
def JF (X : XS) : Prop := (0 ≤ X.1 43 7 ∧ X.1 43 7 ≤ 8) ∧ X.1 (X.2 0) 9 = X.1 43 7 ∧
  ((X.1 1 8 = 0 ∧ X.1 43 5 = 0 ∧ X.1 43 6 = 0 ∧ X.1 (X.2 0) 8 = 0 ∧ X.1 43 7 = 0) ∨ (X.1 1 8 = 1 ∧ (1 ≤ X.1 43 5 ∧ X.1 43 5 ≤ 4) ∧ (2 ≤ X.1 43 6 ∧ X.1 43 6 ≤ 5) ∧ X.1 (X.2 0) 7 = X.1 43 6 ∧ X.1 (X.2 0) 8 = X.1 43 5 * X.1 43 6)) ∧
  (∀ m, m < nM X → (0 ≤ X.1 47 m ∧ X.1 47 m ≤ 2) ∧ (0 ≤ X.1 48 m ∧ X.1 48 m ≤ 1) ∧ (1 ≤ X.1 49 m ∧ X.1 49 m ≤ 9) ∧ (1 ≤ X.1 50 m ∧ X.1 50 m ≤ 9) ∧ 0 ≤ X.1 51 m ∧ X.1 51 m < X.1 43 5 * X.1 43 6) ∧
  (∀ m, m < nM X → X.1 (X.2 0 + 1) m = X.1 47 m ∧ X.1 (X.2 0 + 2) m = X.1 48 m ∧ X.1 (X.2 0 + 3) m = X.1 49 m ∧ X.1 (X.2 0 + 4) m = X.1 50 m ∧ X.1 (X.2 0 + 5) m = X.1 51 m) ∧
  (∀ m o, m < nM X → o < nM X → X.1 (X.2 0 + 6) (m * 9 + o) = fr (X.1 43 6) (X.1 51 m) (X.1 51 o)) ∧
  (∀ c : Nat, (c : Int) < X.1 43 5 * X.1 43 6 → X.1 (X.2 0 + 7) c = fn1 (fun m => decide (X.1 51 m = (c : Int))) 0 (nM X))
def JL (X : XS) : Prop := X.1 1 9 = X.1 43 13 ∧ (X.1 43 13 = 0 ∨ X.1 43 13 = 1 ∨ X.1 43 13 = 2)
def JT (X : XS) : Prop := (0 ≤ X.1 43 19 ∧ X.1 43 19 ≤ 6) ∧ X.1 17 2 = X.1 43 19 ∧ ∀ k, k < nS X → X.1 18 k = X.1 53 k ∧ X.1 19 k = X.1 54 k ∧ (0 ≤ X.1 53 k ∧ X.1 53 k < X.1 43 7) ∧ 0 ≤ X.1 54 k ∧ X.1 54 k < 30
def JD (X : XS) : Prop := (0 ≤ X.1 43 29 ∧ X.1 43 29 ≤ 8) ∧ X.1 23 3 = X.1 43 29 ∧ ∀ k, k < nR X → X.1 24 k = X.1 60 k ∧ X.1 25 k = X.1 61 k ∧ X.1 26 k = X.1 62 k ∧ (0 ≤ X.1 60 k ∧ X.1 60 k < X.1 43 7) ∧ (0 ≤ X.1 61 k ∧ X.1 61 k < 30) ∧ (X.1 62 k = 0 ∨ X.1 62 k = 1)
def JX (X : XS) : Prop := X.1 43 22 = 0 ∧ X.1 43 23 = -9 ∧ X.1 1 10 = X.1 43 1 ∧ X.1 1 11 = X.1 43 0
def J (X : XS) : Prop := JS X ∧ JR X ∧ JF X ∧ JL X ∧ JT X ∧ JD X ∧ JX X
/-- the class's scratch rows -/
def CS (X Y : XS) : Prop := (∀ i, i < 11 ∨ (16 < i ∧ i < 20) ∨ 22 < i → Y.1 i = X.1 i) ∧ Y.2 0 = X.2 0 ∧ Y.2 1 = X.2 1
theorem CS.rf (X : XS) : CS X X := ⟨fun _ _ => rfl, rfl, rfl⟩
theorem CS.tr {X Y Z : XS} (h : CS X Y) (g : CS Y Z) : CS X Z := ⟨fun i hi => (g.1 i hi).trans (h.1 i hi), g.2.1.trans h.2.1, g.2.2.trans h.2.2⟩
theorem CR.cs {b : Nat} {X Y : XS} (h : CR b X Y) : CS X Y := ⟨fun i hi => h.1 i (by omega), h.2.1 0 (by decide), h.2.1 1 (by decide)⟩
theorem J.cs {X Y : XS} (h : J X) (g : CS X Y) : J Y := by
  obtain ⟨h1, h2, h3, h4, h5, h6, h7⟩ := h
  obtain ⟨g1, g2, g3⟩ := g
  have hb : X.2 0 = 27 ∨ X.2 0 = 35 := by rcases h2 with h | h <;> omega
  have r1 := g1 1 (by omega)
  have r43 := g1 43 (by omega)
  have r44 := g1 44 (by omega)
  have r45 := g1 45 (by omega)
  have r46 := g1 46 (by omega)
  have r47 := g1 47 (by omega)
  have r48 := g1 48 (by omega)
  have r49 := g1 49 (by omega)
  have r50 := g1 50 (by omega)
  have r51 := g1 51 (by omega)
  have r53 := g1 53 (by omega)
  have r54 := g1 54 (by omega)
  have r60 := g1 60 (by omega)
  have r61 := g1 61 (by omega)
  have r62 := g1 62 (by omega)
  refine ⟨fun k hk => ?_, ?_, ?_, ?_, ?_, ?_, ?_⟩
  · rw [g1 (3 + 2 * k) (by omega), g1 (3 + 2 * k + 1) (by omega), r44, r45, r46]
    exact h1 k hk
  · unfold JR; rw [g2, g3]; exact h2
  · unfold JF nM
    rw [g2, r1, r43, r47, r48, r49, r50, r51, g1 (X.2 0) (by omega), g1 (X.2 0 + 1) (by omega), g1 (X.2 0 + 2) (by omega), g1 (X.2 0 + 3) (by omega), g1 (X.2 0 + 4) (by omega), g1 (X.2 0 + 5) (by omega), g1 (X.2 0 + 6) (by omega), g1 (X.2 0 + 7) (by omega)]
    exact h3
  · unfold JL; rw [r1, r43]; exact h4
  · unfold JT nS; rw [g1 17 (by omega), g1 18 (by omega), g1 19 (by omega), r43, r53, r54]; exact h5
  · unfold JD nR; rw [g1 23 (by omega), g1 24 (by omega), g1 25 (by omega), g1 26 (by omega), r43, r60, r61, r62]; exact h6
  · unfold JX; rw [r1, r43]; exact h7
/-- the reference's scratch -/
def ME (X Y : XS) : Prop := (∀ i, i < 43 ∨ (43 < i ∧ i < 52) ∨ (59 < i ∧ i < 63) → Y.1 i = X.1 i) ∧ Y.2 = X.2 ∧ (∀ k, k < 8 ∨ k = 13 ∨ k = 19 ∨ k = 22 ∨ k = 23 ∨ k = 29 → Y.1 43 k = X.1 43 k) ∧ ∀ k, k < nS X → Y.1 53 k = X.1 53 k ∧ Y.1 54 k = X.1 54 k
theorem ME.rf (X : XS) : ME X X := ⟨fun _ _ => rfl, rfl, fun _ _ => rfl, fun _ _ => ⟨rfl, rfl⟩⟩
theorem ME.tr {X Y Z : XS} (h : ME X Y) (g : ME Y Z) : ME X Z := by
  refine ⟨fun i hi => (g.1 i hi).trans (h.1 i hi), g.2.1.trans h.2.1, fun k hk => (g.2.2.1 k hk).trans (h.2.2.1 k hk), fun k hk => ?_⟩
  have e : nS Y = nS X := by unfold nS; rw [h.2.2.1 19 (by omega)]
  obtain ⟨a1, a2⟩ := g.2.2.2 k (by rw [e]; exact hk)
  obtain ⟨b1, b2⟩ := h.2.2.2 k hk
  exact ⟨a1.trans b1, a2.trans b2⟩
theorem MF.me {X Y : XS} (h : MF X Y) : ME X Y := ⟨fun i hi => h.2 i (by omega), h.1, fun k _ => by rw [h.2 43 (by omega)], fun k _ => by rw [h.2 53 (by omega), h.2 54 (by omega)]; exact ⟨rfl, rfl⟩⟩
theorem J.me {X Y : XS} (h : J X) (g : ME X Y) : J Y := by
  obtain ⟨h1, h2, h3, h4, h5, h6, h7⟩ := h
  obtain ⟨g1, g2, g3, g4⟩ := g
  have hb : X.2 0 = 27 ∨ X.2 0 = 35 := by rcases h2 with h | h <;> omega
  have s5 := g3 5 (by omega)
  have s6 := g3 6 (by omega)
  have s7 := g3 7 (by omega)
  have s13 := g3 13 (by omega)
  have s19 := g3 19 (by omega)
  have s29 := g3 29 (by omega)
  refine ⟨fun k hk => ?_, ?_, ?_, ?_, ?_, ?_, ?_⟩
  · rw [g1 (3 + 2 * k) (by omega), g1 (3 + 2 * k + 1) (by omega), g1 44 (by omega), g1 45 (by omega), g1 46 (by omega)]
    exact h1 k hk
  · unfold JR; rw [g2]; exact h2
  · unfold JF nM
    rw [g2, s5, s6, s7, g1 1 (by omega), g1 47 (by omega), g1 48 (by omega), g1 49 (by omega), g1 50 (by omega), g1 51 (by omega), g1 (X.2 0) (by omega), g1 (X.2 0 + 1) (by omega), g1 (X.2 0 + 2) (by omega), g1 (X.2 0 + 3) (by omega), g1 (X.2 0 + 4) (by omega), g1 (X.2 0 + 5) (by omega), g1 (X.2 0 + 6) (by omega), g1 (X.2 0 + 7) (by omega)]
    exact h3
  · unfold JL; rw [g1 1 (by omega), s13]; exact h4
  · unfold JT nS
    rw [g1 17 (by omega), g1 18 (by omega), g1 19 (by omega), s19, s7]
    refine ⟨h5.1, h5.2.1, fun k hk => ?_⟩
    rw [(g4 k hk).1, (g4 k hk).2]
    exact h5.2.2 k hk
  · unfold JD nR; rw [g1 23 (by omega), g1 24 (by omega), g1 25 (by omega), g1 26 (by omega), s29, s7, g1 60 (by omega), g1 61 (by omega), g1 62 (by omega)]; exact h6
  · unfold JX; rw [g1 1 (by omega), g3 22 (by omega), g3 23 (by omega), g3 1 (by omega), g3 0 (by omega)]; exact h7
theorem J.n {X : XS} (h : J X) : X.1 43 7 = (nM X : Int) ∧ nM X ≤ 8 := by
  have := h.2.2.1.1
  unfold nM
  omega
theorem hw20 {a b : Int} (h : 1 ≤ a ∧ a ≤ 4) (g : 2 ≤ b ∧ b ≤ 5) : a * b ≤ 20 ∧ 2 ≤ a * b := by
  rcases (show a = 1 ∨ a = 2 ∨ a = 3 ∨ a = 4 by omega) with rfl | rfl | rfl | rfl <;> omega
theorem J.dr {X : XS} (h : J X) : DR (DM X) := by
  have hn := h.n
  obtain ⟨-, -, -, q4, -⟩ := h.2.2.1
  refine ⟨by show nM X ≤ 9; omega, fun m hm => ?_⟩
  obtain ⟨a, -, c, d, -⟩ := q4 m hm
  exact ⟨a, c, d⟩
theorem J.hm {X : XS} (h : J X) : HM (DM X) X := by
  have hn := h.n
  obtain ⟨q1, q2, q3, q4, q5, q6, q7⟩ := h.2.2.1
  refine ⟨hn.1, h.dr, fun m hm => ⟨rfl, rfl, rfl, rfl⟩, fun m hm => ?_, fun m o _ _ => rfl⟩
  have hm : m < nM X := hm
  obtain ⟨-, -, -, -, a, b⟩ := q4 m hm
  rcases q3 with q3 | ⟨-, q3, q3', -⟩
  · exfalso; omega
  · have := hw20 q3 q3'
    exact ⟨by omega, a, by omega⟩
theorem J.hb {X : XS} (h : J X) : HB (DM X) (X.2 0) X := by
  have hn := h.n
  have h2 := h.2.1
  obtain ⟨q1, q2, q3, q4, q5, q6, q7⟩ := h.2.2.1
  refine ⟨by rcases h2 with h | h <;> omega, q2.trans hn.1, h.dr, fun m hm => ?_, fun m o hm ho => q6 m o hm ho⟩
  obtain ⟨a, b, c, d, -⟩ := q5 m hm
  exact ⟨a, b, c, d⟩
theorem J.smo {X : XS} (h : J X) : SMo (DM X) X (SS X) := by
  have hn := h.n
  obtain ⟨h5, -, h5'⟩ := h.2.2.2.2.1
  refine ⟨nS X, 0, by unfold nS; omega, by decide, by unfold nS; omega, h.2.2.2.2.2.2.1, fun k hk => ?_, rfl⟩
  obtain ⟨-, -, a, -⟩ := h5' k hk
  exact ⟨a.1, by show X.1 53 k < (nM X : Int); rw [← hn.1]; exact a.2⟩
theorem J.sc {X : XS} (h : J X) : SC (DM X) 17 X (SS X) := by
  have hn := h.n
  obtain ⟨h5, h6, h5'⟩ := h.2.2.2.2.1
  refine ⟨Or.inl rfl, nS X, by unfold nS; omega, by show _ ≤ 6; unfold nS; omega, by show _ ≤ 6; unfold nS; omega, by rw [h6]; unfold nS; omega, fun k hk => ?_, ?_⟩
  · obtain ⟨a0, -, a, -⟩ := h5' k hk
    rw [show X.1 (17 + 1) k = X.1 53 k from a0]
    exact ⟨a.1, by show X.1 53 k < (nM X : Int); rw [← hn.1]; exact a.2⟩
  · unfold SS
    refine stl_congr (fun k hk => ?_)
    obtain ⟨a0, a1, -⟩ := h5' k hk
    exact ⟨a0.symm, a1.symm⟩
theorem J.law {X : XS} (h : J X) : X.1 43 13 = 0 ∨ X.1 43 13 = 1 ∨ X.1 43 13 = 2 := h.2.2.2.1.2
/-- the rows of the reference are the same -/
def RM (X Y : XS) : Prop := ∀ i, 43 ≤ i → Y.1 i = X.1 i
theorem CS.rm {X Y : XS} (h : CS X Y) : RM X Y := fun i hi => h.1 i (by omega)
theorem RM.dm {X Y : XS} (h : RM X Y) : DM Y = DM X := by
  unfold DM
  rw [h 43 (by omega), h 47 (by omega), h 48 (by omega), h 49 (by omega), h 50 (by omega), h 51 (by omega)]
theorem RM.ss {X Y : XS} (h : RM X Y) : SS Y = SS X := by
  unfold SS nS
  rw [h 43 (by omega), h 53 (by omega), h 54 (by omega)]
/-- two methods answer alike, and leave class and reference side by side -/
def PAIR (w : WD) (c m : MI) (as : List V) : Prop := ∀ X : XS, J X → ∃ Q1 : Int → XS → Prop, MS w c (.inr (.inr (6, 1)) :: as) X Q1 ∧ ∀ z Y, Q1 z Y → ∃ Q2 : Int → XS → Prop, MS w m (.inr (.inr (7, 43)) :: as) Y Q2 ∧ ∀ z' Z, Q2 z' Z → z' = z ∧ J Z
/-- a question: both answer by f of the reference's rows -/
theorem PAIR.ask {w : WD} {c m : MI} {as : List V} (f : XS → Int) (hf : ∀ X Y, RM X Y → f Y = f X) (hc : ∀ X, J X → MS w c (.inr (.inr (6, 1)) :: as) X (fun z Y => CS X Y ∧ z = f X)) (hm : ∀ X, J X → MS w m (.inr (.inr (7, 43)) :: as) X (fun z Y => ME X Y ∧ z = f X)) : PAIR w c m as := by
  intro X hJ
  refine ⟨_, hc X hJ, fun z Y hq => ?_⟩
  obtain ⟨h1, h2⟩ := hq
  have hJ' := hJ.cs h1
  refine ⟨_, hm Y hJ', fun z' Z hq' => ?_⟩
  obtain ⟨h3, h4⟩ := hq'
  exact ⟨by rw [h4, h2, hf X Y h1.rm], hJ'.me h3⟩
