/-! the reference -/
def OD (X Z : XS) : Prop := (∀ i, i ≠ 43 → i < 55 ∨ 59 < i → Z.1 i = X.1 i) ∧ Z.2 = X.2 ∧ ∀ k, k ≠ 22 → Z.1 43 k = X.1 43 k
theorem OD.rf (X : XS) : OD X X := ⟨fun _ _ _ => rfl, rfl, fun _ _ => rfl⟩
theorem OD.mf {X Y Z : XS} (h : OD X Y) (g : MF Y Z) : OD X Z := ⟨fun i a b => (g.2 i b).trans (h.1 i a b), g.1.trans h.2.1, fun k hk => by rw [g.2 43 (by omega)]; exact h.2.2 k hk⟩
theorem OD.un {X Y : XS} (h : OD X Y) (z : Int) : OD X (up Y.1 43 22 z, Y.2) := by
  refine ⟨fun i a b => (up_ne a).trans (h.1 i a b), h.2.1, fun k hk => ?_⟩
  show up Y.1 43 22 z 43 k = _
  rw [up_row, u1_n hk]
  exact h.2.2 k hk
theorem OD.hm {X Z : XS} (h : J X) (g : OD X Z) : HM (DM X) Z := by
  obtain ⟨h1, h2, h3, h4, h5⟩ := h.hm
  unfold HM
  rw [g.2.2 6 (by omega), g.2.2 7 (by omega), g.1 47 (by omega) (by omega), g.1 48 (by omega) (by omega), g.1 49 (by omega) (by omega), g.1 50 (by omega) (by omega), g.1 51 (by omega) (by omega)]
  exact ⟨h1, h2, h3, h4, h5⟩
theorem OD.smo {X Z : XS} (h : J X) (g : OD X Z) {u : Nat} (hu : u < 64) (hz : Z.1 43 22 = (u : Int)) : SMo (DM X) Z (stl (X.1 53) (X.1 54) u (nS X)) := by
  have hn := h.n
  have hns := h.ns
  obtain ⟨-, -, t3⟩ := h.2.2.2.2.1
  refine ⟨nS X, u, (by omega), hu, by rw [g.2.2 19 (by omega)]; exact hns.1, hz, fun k hk => ?_, by rw [g.1 53 (by omega) (by omega), g.1 54 (by omega) (by omega)]⟩
  rw [g.1 53 (by omega) (by omega)]
  obtain ⟨-, -, a, -⟩ := t3 k hk
  exact ⟨a.1, by show _ < (nM X : Int); rw [← hn.1]; exact a.2⟩
theorem mo_odds1 (w : WD) {X : XS} (h : J X) {m : Nat} (hm : (m : Int) < X.1 43 7) {b : Int} (hb : 0 ≤ b ∧ b < 2) : MS w M_Mo_odds [.inr (.inr (7, 43)), .inl (m : Int), .inl b] X (fun z Y => ME X Y ∧ z = if b = 0 then ((hf X m).1 : Int) else ((hf X m).2 : Int)) := by
  have hn := h.n
  have hns := h.ns
  have hp := p2s (nS X) (by omega)
  refine mk_Mo_odds rfl ?_
  refine sx_Mo_odds ?_
  refine ⟨trivial, _, mo_isMan w X (m : Int), fun z Y hq => ?_⟩
  obtain ⟨rfl, rfl⟩ := hq
  refine sx_Mo_odds ?_
  refine ⟨fun q => absurd (show 0 ≤ (m : Int) ∧ (m : Int) < Y.1 43 7 by omega) (nif q), fun _ => ?_⟩
  refine ⟨trivial, _, mo_within w Y b 0 1, fun z Y1 hq => ?_⟩
  obtain ⟨rfl, rfl⟩ := hq
  refine sx_Mo_odds ?_
  refine ⟨fun _ => ?_, fun q => absurd (show 0 ≤ b ∧ b ≤ 1 by omega) (nif q)⟩
  refine tx_Mo_odds 4 ?_
  have L : ∀ j : Nat, j ≤ 2 ^ nS Y1 → ∀ (c s : Int) (Z : XS), c = (j : Int) → s = ((cnt (od Y1 m) j : Nat) : Int) → OD Y1 Z → Go w K_Mo_odds 26 [some (.inr (.inr (7, 43))), some (.inl (m : Int)), some (.inl b), some (.inl s), some (.inl c)] [] Z (fun z Y => ME Y1 Y ∧ z = if b = 0 then ((hf Y1 m).1 : Int) else ((hf Y1 m).2 : Int)) := by
    refine lp ?_
    intro j hj ih c s Z hc hs hO
    subst hc
    subst hs
    have hcl := cnt_le (od_le Y1 m) j
    have h19 : Z.1 43 19 = (nS Y1 : Int) := by rw [hO.2.2 19 (by omega)]; exact hns.1
    have e2 : True → wr (1 * 2 ^ (Z.1 43 19).toNat) = ((2 ^ nS Y1 : Nat) : Int) := fun _ => by rw [h19, Int.toNat_natCast]; exact (p2k' (nS Y1) (by omega)).1
    refine sx_Mo_odds ?_
    refine ⟨(by omega), (by omega), fun q => ?_, fun q => ?_⟩
    · have q : wr (1 * 2 ^ (Z.1 43 19).toNat) ≤ (j : Int) := q
      rw [e2 trivial] at q
      have e : j = 2 ^ nS Y1 := by omega
      clear q
      have e3 : (2 : Int) ^ (up Z.1 43 22 0 43 19).toNat = ((2 ^ nS Y1 : Nat) : Int) := by
        rw [up_row, u1_n (by omega), h19, Int.toNat_natCast]
        exact p2i _ (by omega)
      have b19 : 0 ≤ up Z.1 43 22 0 43 19 ∧ up Z.1 43 22 0 43 19 < 31 := by rw [up_row, u1_n (by omega), h19]; omega
      have A := mo_ilt w (up Z.1 43 22 0, Z.2) (u := cnt (od Y1 m) j) (d := 2 ^ nS Y1) hp.2 b
      rw [← e3] at A
      have G := hlv_gcd (nS Y1) (by omega) (cnt (od Y1 m) j) (by omega) (by omega)
      rw [e] at G
      have hO' := hO.un 0
      refine sx_Mo_odds ?_
      refine ⟨b19.1, b19.2, rfl, trivial, _, A, fun z Z1 hq => ?_⟩
      obtain ⟨rfl, rfl⟩ := hq
      refine sx_Mo_odds ?_
      refine ⟨⟨fun i hi => hO'.1 i (by omega) (by omega), hO'.2.1, fun k hk => ?_, fun k _ => by rw [hO'.1 53 (by omega) (by omega), hO'.1 54 (by omega) (by omega)]; exact ⟨rfl, rfl⟩⟩, ?_⟩
      · by_cases e : k = 22
        · subst e
          show up Z.1 43 22 0 43 22 = _
          rw [up_row, u1_s]
          exact h.2.2.2.2.2.2.1.symm
        · exact hO'.2.2 k e
      · unfold hf
        rw [G, e]
    · have q : (j : Int) < wr (1 * 2 ^ (Z.1 43 19).toNat) := q
      rw [e2 trivial] at q
      have hjn : j < 2 ^ nS Y1 := by omega
      clear q e2
      have hO' := hO.un (j : Int)
      have A := mo_leftNow w (hO'.hm h) (hO'.smo h (u := j) (by omega) (by show up Z.1 43 22 (j : Int) 43 22 = _; rw [up_row, u1_s])) (law := Y1.1 43 13) (ab := -9) (hO'.2.2 13 (by omega)) ((hO'.2.2 23 (by omega)).trans h.2.2.2.2.2.2.2.1)
      refine ⟨trivial, _, A, fun z Z1 hq => ?_⟩
      obtain ⟨g1, g2, rfl⟩ := hq
      have hB := bt1 (S := bsN (RT Y1 (stl (Y1.1 53) (Y1.1 54) j (nS Y1))).1 (nM Y1)) (k := m) (bs512 (by omega)) (by omega)
      refine sx_Mo_odds ?_
      refine ⟨(by omega), (by omega), ?_⟩
      refine ih hjn _ _ _ (w1 rfl (by omega)) ?_ (hO'.mf g1)
      show wr ((cnt (od Y1 m) j : Nat) + ia ((bsN (RT Y1 (stl (Y1.1 53) (Y1.1 54) j (nS Y1))).1 (nM Y1) : Nat) / 2 ^ m) 1) = _
      rw [hB, cnt_s]
      by_cases t : (bsN (RT Y1 (stl (Y1.1 53) (Y1.1 54) j (nS Y1))).1 (nM Y1)).testBit m = true
      · rw [if_pos t, show od Y1 m j = 1 from if_pos t, wr_id (by omega) (by omega)]; rfl
      · rw [if_neg t, show od Y1 m j = 0 from if_neg t, wr_id (by omega) (by omega)]; rfl
  exact L 0 (Nat.zero_le _) 0 0 Y1 rfl rfl (OD.rf Y1)
