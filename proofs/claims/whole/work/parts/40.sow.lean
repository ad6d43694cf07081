/-! ===== sow ===== -/
/-- the data with one man more, a man of strength 5 and armour 5 in cell c -/
def DS (X : XS) (d : Int) (c : Nat) : FD := (nM X + 1, u1 (X.1 47) (nM X) 0, u1 (X.1 48) (nM X) d, u1 (X.1 49) (nM X) 5, u1 (X.1 50) (nM X) 5, fun m o => fr (X.1 43 6) (u1 (X.1 51) (nM X) (c : Int) m) (u1 (X.1 51) (nM X) (c : Int) o))
def svn (X : XS) (d : Int) (c : Nat) : Nat := pc (bsN (run (DS X d c) (X.1 43 13) (SS X) (-9) 30).1 (nM X))
abbrev fre (X : XS) (c : Nat) : Prop := fn1 (fun m => decide (X.1 51 m = (c : Int))) 0 (nM X) = -9
def swb (X : XS) (d : Int) : Nat → Int × Int
  | 0 => (-9, 9)
  | c + 1 => if fre X c ∧ (svn X d c : Int) < (swb X d c).2 then ((c : Int), (svn X d c : Int)) else swb X d c
theorem swb_s (X : XS) (d : Int) (c : Nat) : swb X d (c + 1) = if fre X c ∧ (svn X d c : Int) < (swb X d c).2 then ((c : Int), (svn X d c : Int)) else swb X d c := rfl
theorem svn_le {X : XS} (h : nM X ≤ 8) (d : Int) (c : Nat) : svn X d c ≤ 8 := pc8 h
theorem swb_i (X : XS) (d : Int) : ∀ k, ((swb X d k).1 = -9 ∧ (swb X d k).2 = 9) ∨ 0 ≤ (swb X d k).1
  | 0 => Or.inl ⟨rfl, rfl⟩
  | k + 1 => by
    have ih := swb_i X d k
    rw [swb_s]
    by_cases e : fre X k ∧ (svn X d k : Int) < (swb X d k).2
    · rw [if_pos e]; exact Or.inr (Int.natCast_nonneg k)
    · rw [if_neg e]; exact ih
def a_sow (d : Int) (X : XS) : Int := if 0 ≤ d ∧ d < 2 then (if X.1 43 5 * X.1 43 6 = 0 then -3 else (swb X d (X.1 43 5 * X.1 43 6).toNat).1) else -2
theorem ds_dr {X : XS} (h : J X) {d : Int} (c : Nat) : DR (DS X d c) := by
  have hn := h.n
  obtain ⟨-, -, -, q4, -⟩ := h.2.2.1
  refine ⟨by show nM X + 1 ≤ 9; omega, fun m hm => ?_⟩
  have hm : m < nM X + 1 := hm
  show (0 ≤ u1 (X.1 47) (nM X) 0 m ∧ u1 (X.1 47) (nM X) 0 m ≤ 2) ∧ (1 ≤ u1 (X.1 49) (nM X) 5 m ∧ u1 (X.1 49) (nM X) 5 m ≤ 9) ∧ (1 ≤ u1 (X.1 50) (nM X) 5 m ∧ u1 (X.1 50) (nM X) 5 m ≤ 9)
  by_cases e : m = nM X
  · rw [e, u1_s, u1_s, u1_s]; omega
  · rw [u1_n e, u1_n e, u1_n e]
    obtain ⟨a, -, b, c, -⟩ := q4 m (by omega)
    exact ⟨a, b, c⟩
theorem bs_top {u : Nat → Int} {n : Nat} : bsN u (n + 1) &&& (2 ^ n - 1) = bsN u n := by
  apply Nat.eq_of_testBit_eq
  intro k
  rw [Nat.testBit_and, bsN_bit, bsN_bit, Nat.testBit_two_pow_sub_one]
  by_cases e : k < n
  · by_cases g : u k = 1
    · simp [e, g]; omega
    · simp [e, g]
  · simp [e]
theorem bs_top2 {u : Nat → Int} {n : Nat} (h : n ≤ 8) : bsN u (n + 1) &&& (511 - 2 ^ n) = bsN u n := by
  rw [bs_clr (by omega) (by omega), bsN_s, if_neg (by rw [u1_s]; decide)]
  exact bsN_eq (fun m hm => by rw [u1_n (by omega)])
/-- the class's host with junk behind its men -/
def SWJ (X Y : XS) : Prop := (∀ i, i < 11 ∨ (16 < i ∧ i < 20) ∨ 22 < i → ¬ (X.2 0 < i ∧ i < X.2 0 + 7) → Y.1 i = X.1 i) ∧ Y.2 0 = X.2 0 ∧ Y.2 1 = X.2 1 ∧ (∀ m, m < nM X → Y.1 (X.2 0 + 1) m = X.1 (X.2 0 + 1) m ∧ Y.1 (X.2 0 + 2) m = X.1 (X.2 0 + 2) m ∧ Y.1 (X.2 0 + 3) m = X.1 (X.2 0 + 3) m ∧ Y.1 (X.2 0 + 4) m = X.1 (X.2 0 + 4) m ∧ Y.1 (X.2 0 + 5) m = X.1 (X.2 0 + 5) m) ∧ ∀ m o, m < nM X → o < nM X → Y.1 (X.2 0 + 6) (m * 9 + o) = X.1 (X.2 0 + 6) (m * 9 + o)
theorem SWJ.rf (X : XS) : SWJ X X := ⟨fun _ _ _ => rfl, rfl, rfl, fun _ _ => ⟨rfl, rfl, rfl, rfl, rfl⟩, fun _ _ _ _ => rfl⟩
theorem SWJ.rm {X Y : XS} (hb : X.2 0 = 27 ∨ X.2 0 = 35) (h : SWJ X Y) : RM X Y := fun i hi => h.1 i (by omega) (by omega)
theorem SWJ.tr {X Y Z : XS} (hb : X.2 0 = 27 ∨ X.2 0 = 35) (h : SWJ X Y) (g : SWJ Y Z) : SWJ X Z := by
  have e : nM Y = nM X := by unfold nM; rw [h.rm hb 43 (by omega)]
  obtain ⟨g1, g2, g3, g4, g5⟩ := g
  rw [h.2.1, e] at g4 g5
  rw [h.2.1] at g1
  refine ⟨fun i a b => (g1 i a b).trans (h.1 i a b), g2.trans h.2.1, g3.trans h.2.2.1, fun m hm => ?_, fun m o hm ho => (g5 m o hm ho).trans (h.2.2.2.2 m o hm ho)⟩
  obtain ⟨a1, a2, a3, a4, a5⟩ := g4 m hm
  obtain ⟨b1, b2, b3, b4, b5⟩ := h.2.2.2.1 m hm
  exact ⟨a1.trans b1, a2.trans b2, a3.trans b3, a4.trans b4, a5.trans b5⟩
theorem J.swj {X Y : XS} (h : J X) (g : SWJ X Y) : J Y := by
  have hb := h.b2
  obtain ⟨h1, h2, h3, h4, h5, h6, h7⟩ := h
  obtain ⟨g1, g2, g3, g4, g5⟩ := g
  have r43 := g1 43 (by omega) (by omega)
  refine ⟨JS.cg h1 (fun i hi => g1 i (by omega) (by omega)), by unfold JR; rw [g2, g3]; exact h2, ?_, JL.cg h4 (by rw [g1 1 (by omega) (by omega)]) (by rw [r43]), JT.cg h5 (fun i hi => g1 i (by omega) (by omega)) (by rw [r43]) (by rw [r43]), JD.cg h6 (fun i hi => g1 i (by omega) (by omega)) (by rw [r43]) (by rw [r43]), ?_⟩
  · obtain ⟨q1, q2, q3, q4, q5, q6, q7⟩ := h3
    unfold JF nM
    rw [g2, r43, g1 1 (by omega) (by omega), g1 (X.2 0) (by omega) (by omega), g1 (X.2 0 + 7) (by omega) (by omega), g1 47 (by omega) (by omega), g1 48 (by omega) (by omega), g1 49 (by omega) (by omega), g1 50 (by omega) (by omega), g1 51 (by omega) (by omega)]
    refine ⟨q1, q2, q3, q4, fun m hm => ?_, fun m o hm ho => (g5 m o hm ho).trans (q6 m o hm ho), q7⟩
    obtain ⟨a1, a2, a3, a4, a5⟩ := g4 m hm
    obtain ⟨b1, b2, b3, b4, b5⟩ := q5 m hm
    exact ⟨a1.trans b1, a2.trans b2, a3.trans b3, a4.trans b4, a5.trans b5⟩
  · unfold JX; rw [r43, g1 1 (by omega) (by omega)]; exact h7
theorem c_remove (w : WD) {X : XS} {b n c : Nat} (hb : b = 27 ∨ b = 35) (hn : X.1 b 9 = ((n + 1 : Nat) : Int)) (hn8 : n ≤ 8) (hp : X.1 (b + 5) n = (c : Int)) (hc : c < 20) : MS w M_Ho_removeLast [.inr (.inr (1, b))] X (fun _ Y => Y = (up (up X.1 b 9 (n : Int)) (b + 7) c (-9), X.2)) := by
  have e : True → wr (X.1 b 9 - 1) = (n : Int) := fun _ => by rw [hn, wr_id (by omega) (by omega)]; omega
  refine mk_Ho_removeLast rfl ?_
  refine tx_Ho_removeLast 9 ?_
  refine ⟨fun q => absurd (show X.1 b 9 ≤ 0 from q) (by omega), fun _ => ?_⟩
  show Go w K_Ho_removeLast 17 [some (.inr (.inr (1, b)))] [] (up X.1 b 9 (wr (X.1 b 9 - 1)), X.2) _
  rw [e trivial]
  clear e
  have z9 : up X.1 b 9 (n : Int) b 9 = (n : Int) := by rw [up_row, u1_s]
  have z5 : up X.1 b 9 (n : Int) (b + 5) (up X.1 b 9 (n : Int) b 9).toNat = (c : Int) := by rw [z9, Int.toNat_natCast, up_ne (by omega)]; exact hp
  have B1 : 0 ≤ up X.1 b 9 (n : Int) b 9 ∧ up X.1 b 9 (n : Int) b 9 < ((9 : Nat) : Int) := by rw [z9]; omega
  have B2 : 0 ≤ up X.1 b 9 (n : Int) (b + 5) (up X.1 b 9 (n : Int) b 9).toNat ∧ up X.1 b 9 (n : Int) (b + 5) (up X.1 b 9 (n : Int) b 9).toNat < ((20 : Nat) : Int) := by rw [z5]; omega
  refine sx_Ho_removeLast ?_
  refine ⟨B1.1, B1.2, B2.1, B2.2, ?_⟩
  show ((up (up X.1 b 9 (n : Int)) (b + 7) (up X.1 b 9 (n : Int) (b + 5) (up X.1 b 9 (n : Int) b 9).toNat).toNat (-9), X.2) : XS) = _
  rw [z5, Int.toNat_natCast]
theorem J.sc2 {X : XS} (h : J X) {d : Int} {c : Nat} : SC (DS X d c) 17 X (SS X) := by
  obtain ⟨a, ns, b1, b2, b3, b4, b5, b6⟩ := h.sc
  refine ⟨a, ns, b1, b2, b3, b4, fun k hk => ⟨(b5 k hk).1, ?_⟩, b6⟩
  have := (b5 k hk).2
  show _ < ((nM X + 1 : Nat) : Int)
  have e : (dn (DM X) : Int) = (nM X : Int) := rfl
  omega
theorem and_pre {n : Nat} (h : n ≤ 8) : 2 ^ n - 1 < 512 := by
  have := p2k' n (by omega)
  omega
theorem c_olws (w : WD) {X : XS} (h : J X) {c : Nat} (hc : (c : Int) < X.1 43 5 * X.1 43 6) (hfr : fre X c) {d : Int} : MS w M_Tf_othersLeftWithSown [.inr (.inr (6, 1)), .inl (c : Int), .inl d] X (fun z Z => SWJ X Z ∧ z = (svn X d c : Int)) := by
  have hn := h.n
  have hal := h.all
  have hb := h.b2
  have hns := h.ns
  obtain ⟨q1, q2, q3, q4, q5, q6, q7⟩ := h.2.2.1
  have q2' : X.1 (X.2 0) 9 = (nM X : Int) := q2.trans hn.1
  obtain ⟨-, -, s3, s4, -⟩ := q3.resolve_left (fun z => by have := z.2.1; have := z.2.2.1; rw [z.2.1] at hc; omega)
  have hpl : ∀ m, m < nM X → X.1 (X.2 0 + 5) m = X.1 51 m ∧ 0 ≤ X.1 51 m ∧ X.1 51 m < 20 := fun m hm => by
    have a := (q5 m hm).2.2.2.2
    have b := (q4 m hm).2.2.2.2
    exact ⟨a, b.1, by omega⟩
  have e1 : True → wr (wr (1 * 2 ^ (X.1 (X.2 0) 9).toNat) - 1) = ((2 ^ nM X - 1 : Nat) : Int) := fun _ => by
    have p := p2k' (nM X) (by omega)
    rw [q2', Int.toNat_natCast, p.1]
    have := p.2
    have : 0 < 2 ^ nM X := Nat.two_pow_pos _
    rw [wr_id (by omega) (by omega)]
    omega
  refine mk_Tf_othersLeftWithSown rfl ?_
  refine tx_Tf_othersLeftWithSown 8 ?_
  refine ⟨h.b0, by rw [q2']; omega, by rw [q2']; omega, ?_⟩
  show Go w K_Tf_othersLeftWithSown 12 [some (.inr (.inr (6, 1))), some (.inl (c : Int)), some (.inl d), some (.inl (wr (wr (1 * 2 ^ (X.1 (X.2 0) 9).toNat) - 1))), none] [] X _
  rw [e1 trivial]
  clear e1
  refine sx_Tf_othersLeftWithSown ?_
  refine ⟨h.b0, trivial, _, c_hadd w (X := X) (b := X.2 0) (n := nM X) (c := c) hb q2' hn.2 (by omega) (by omega) (by rw [s4]; exact s3) (fun m hm => by rw [(hpl m hm).1]; exact (hpl m hm).2) 0 d 5 5, fun _ Y hA => ?_⟩
  obtain ⟨d1, d2, d3, d4, d5, d6, d7, d8, d9, d10, d11⟩ := hA
  have hB : HB (DS X d c) (X.2 0) Y := by
    refine ⟨hb, d4, ds_dr h c, fun m hm => ?_, fun m o hm ho => ?_⟩
    · have hm : m < nM X + 1 := hm
      rw [d5, d6, d7, d8]
      show u1 (X.1 (X.2 0 + 1)) (nM X) 0 m = u1 (X.1 47) (nM X) 0 m ∧ u1 (X.1 (X.2 0 + 2)) (nM X) d m = u1 (X.1 48) (nM X) d m ∧ u1 (X.1 (X.2 0 + 3)) (nM X) 5 m = u1 (X.1 49) (nM X) 5 m ∧ u1 (X.1 (X.2 0 + 4)) (nM X) 5 m = u1 (X.1 50) (nM X) 5 m
      by_cases e : m = nM X
      · rw [e, u1_s, u1_s, u1_s, u1_s, u1_s, u1_s, u1_s, u1_s]; exact ⟨rfl, rfl, rfl, rfl⟩
      · rw [u1_n e, u1_n e, u1_n e, u1_n e, u1_n e, u1_n e, u1_n e, u1_n e]
        obtain ⟨a1, a2, a3, a4, -⟩ := q5 m (by omega)
        exact ⟨a1, a2, a3, a4⟩
    · have hm : m < nM X + 1 := hm
      have ho : o < nM X + 1 := ho
      have pl : ∀ m, m < nM X + 1 → u1 (X.1 (X.2 0 + 5)) (nM X) (c : Int) m = u1 (X.1 51) (nM X) (c : Int) m := fun m hm => by
        by_cases e : m = nM X
        · rw [e, u1_s, u1_s]
        · rw [u1_n e, u1_n e]; exact (hpl m (by omega)).1
      rw [d11 m o (by omega) (by omega), s4, pl m hm, pl o ho]
      show _ = fr (X.1 43 6) (u1 (X.1 51) (nM X) (c : Int) m) (u1 (X.1 51) (nM X) (c : Int) o)
      by_cases e : m = nM X ∨ o = nM X
      · rw [if_pos e]
      · rw [if_neg e, u1_n (fun z => e (Or.inl z)), u1_n (fun z => e (Or.inr z))]
        exact q6 m o (by omega) (by omega)
  have hS : SC (DS X d c) 17 Y (SS X) := by
    obtain ⟨a, ns, b1, b2, b3, b4, b5, b6⟩ := h.sc2 (d := d) (c := c)
    exact ⟨a, ns, b1, b2, b3, by rw [d1 17 (by omega)]; exact b4, fun k hk => by rw [d1 (17 + 1) (by omega)]; exact b5 k hk, by rw [d1 (17 + 1) (by omega), d1 (17 + 2) (by omega)]; exact b6⟩
  have hlw : Y.1 1 9 = X.1 43 13 := by rw [d1 1 (by omega)]; exact h.2.2.2.1.1
  have A := c_run w (ab := -9) (law := X.1 43 13) hB h.law hS (last := 29) (by decide)
  rw [show X.2 0 = Y.2 0 by rw [d2], ← hlw] at A
  have y0 : Y.2 0 = X.2 0 := by rw [d2]
  refine sx_Tf_othersLeftWithSown ?_
  refine ⟨by rw [y0]; exact h.b0, trivial, _, A, fun z Z hq => ?_⟩
  obtain ⟨g1, -, rfl⟩ := hq
  rw [hlw]
  have z0 : Z.2 0 = X.2 0 := (g1.2.1 0 (by decide)).trans y0
  have e2 := an1 (a := bsN (run (DS X d c) (X.1 43 13) (SS X) (-9) (29 + 1)).1 (dn (DS X d c))) (b := 2 ^ nM X - 1) (bs512 (by show nM X + 1 ≤ 9; omega))
  have R := c_remove w (X := Z) (b := X.2 0) (n := nM X) (c := c) hb (by rw [g1.1 (X.2 0) (by omega)]; exact d4) hn.2 (by rw [g1.1 (X.2 0 + 5) (by omega), d9, u1_s]) (by omega)
  rw [← z0] at R
  refine tx_Tf_othersLeftWithSown 3 ?_
  show Go w K_Tf_othersLeftWithSown 51 [some (.inr (.inr (6, 1))), some (.inl (c : Int)), some (.inl d), some (.inl ((2 ^ nM X - 1 : Nat) : Int)), some (.inl (ia ((bsN (run (DS X d c) (X.1 43 13) (SS X) (-9) (29 + 1)).1 (dn (DS X d c)) : Nat) : Int) ((2 ^ nM X - 1 : Nat) : Int)))] [] Z _
  rw [e2]
  clear e2
  rw [show bsN (run (DS X d c) (X.1 43 13) (SS X) (-9) (29 + 1)).1 (dn (DS X d c)) &&& (2 ^ nM X - 1) = bsN (run (DS X d c) (X.1 43 13) (SS X) (-9) 30).1 (nM X) from bs_top]
  refine sx_Tf_othersLeftWithSown ?_
  refine ⟨by rw [z0]; exact h.b0, trivial, _, R, fun _ Z1 hq => ?_⟩
  subst hq
  rw [z0]
  refine sx_Tf_othersLeftWithSown ?_
  refine ⟨trivial, _, c_bc w _ (bs512 (by omega)), fun z Z2 hq => ?_⟩
  obtain ⟨rfl, rfl⟩ := hq
  refine sx_Tf_othersLeftWithSown ?_
  refine ⟨trivial, ⟨fun r hr hr2 => ?_, z0, (g1.2.1 1 (by decide)).trans (by rw [d2]), fun m hm => ?_, fun m o hm ho => ?_⟩, rfl⟩
  · show up (up Z.1 (X.2 0) 9 (nM X : Int)) (X.2 0 + 7) c (-9) r = X.1 r
    by_cases e7 : r = X.2 0 + 7
    · subst e7
      rw [up_row, up_ne (by omega), g1.1 (X.2 0 + 7) (by omega), d10]
      funext s
      by_cases e : s = c
      · subst e; rw [u1_s, q7 s hc]; exact hfr.symm
      · rw [u1_n e, u1_n e]
    · rw [up_ne e7]
      by_cases e0 : r = X.2 0
      · subst e0
        rw [up_row, g1.1 (X.2 0) (by omega)]
        funext s
        by_cases e : s = 9
        · subst e; rw [u1_s]; exact q2'.symm
        · rw [u1_n e]; exact d3 s e
      · rw [up_ne e0, g1.1 r (by omega)]; exact d1 r (by omega)
  · show up (up Z.1 (X.2 0) 9 (nM X : Int)) (X.2 0 + 7) c (-9) (X.2 0 + 1) m = _ ∧ up (up Z.1 (X.2 0) 9 (nM X : Int)) (X.2 0 + 7) c (-9) (X.2 0 + 2) m = _ ∧ up (up Z.1 (X.2 0) 9 (nM X : Int)) (X.2 0 + 7) c (-9) (X.2 0 + 3) m = _ ∧ up (up Z.1 (X.2 0) 9 (nM X : Int)) (X.2 0 + 7) c (-9) (X.2 0 + 4) m = _ ∧ up (up Z.1 (X.2 0) 9 (nM X : Int)) (X.2 0 + 7) c (-9) (X.2 0 + 5) m = _
    have u : ∀ r, 0 < r → r < 7 → up (up Z.1 (X.2 0) 9 (nM X : Int)) (X.2 0 + 7) c (-9) (X.2 0 + r) = Y.1 (X.2 0 + r) := fun r p1 p2 => by rw [up_ne (by omega), up_ne (by omega)]; exact g1.1 _ (by omega)
    have e : m ≠ nM X := by omega
    rw [u 1 (by omega) (by omega), u 2 (by omega) (by omega), u 3 (by omega) (by omega), u 4 (by omega) (by omega), u 5 (by omega) (by omega), d5, d6, d7, d8, d9, u1_n e, u1_n e, u1_n e, u1_n e, u1_n e]
    exact ⟨rfl, rfl, rfl, rfl, rfl⟩
  · show up (up Z.1 (X.2 0) 9 (nM X : Int)) (X.2 0 + 7) c (-9) (X.2 0 + 6) (m * 9 + o) = _
    rw [up_ne (by omega), up_ne (by omega), g1.1 (X.2 0 + 6) (by omega), d11 m o (by omega) (by omega), if_neg (by omega)]
