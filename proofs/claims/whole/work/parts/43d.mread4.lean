def MFF (X Y : XS) : Prop := (∀ r, r ≠ 43 → r ≠ 52 → Y.1 r = X.1 r) ∧ Y.2 = X.2 ∧ ∀ q, q < 14 ∨ 17 < q → Y.1 43 q = X.1 43 q
theorem MFF.rf (X : XS) : MFF X X := ⟨fun _ _ _ => rfl, rfl, fun _ _ => rfl⟩
theorem MFF.tr {X Y Z : XS} (h : MFF X Y) (g : MFF Y Z) : MFF X Z := ⟨fun r p q => (g.1 r p q).trans (h.1 r p q), g.2.1.trans h.2.1, fun q a => (g.2.2 q a).trans (h.2.2 q a)⟩
theorem SW.mff {s : Nat} {X Y : XS} {t : Int} (hs : 14 ≤ s ∧ s ≤ 17) (h : SW 43 s X Y t) : MFF X Y := ⟨fun r p _ => h.1 r p, h.2.1, fun q a => h.2.2.1 q (by omega)⟩
theorem MFr.mff {X Y : XS} (h : MFr X Y) : MFF X Y := ⟨h.1, h.2.1, fun q a => h.2.2 q (by omega) (by omega)⟩
theorem RCm.ff {F n : Nat} {f : Nat → Int} {X Y : XS} (h : RCm F n f X) (g : MFF X Y) : RCm F n f Y := ⟨h.1, fun t ht => by rw [g.1 46 (by decide) (by decide)]; exact h.2 t ht⟩
def RFc (F h v n : Nat) (f : Nat → Int) (s : RS) (X Z : XS) : Prop := MFF X Z ∧ Z.1 43 15 = (h : Int) ∧ Z.1 43 16 = (v : Int) ∧ Z.1 43 14 = ((F + s.2.1 : Nat) : Int) ∧ RDp s.2.2.1 s.2.2.2 Z
theorem mo_rdField (w : WD) {F n : Nat} {f : Nat → Int} {X : XS} (h : RCm F n f X) (hp : X.1 43 14 = ((F : Nat) : Int)) : MS w M_Mo_readField [.inr (.inr (7, 43)), .inl ((F + n : Nat) : Int)] X (fun z Y => MFF X Y ∧ Y.1 43 14 = ((F + (fds f n).2.1 : Nat) : Int) ∧ ((fok f n ∧ z = 1 ∧ RFc F (fh f) (fw2 f) n f (fds f n) X Y) ∨ (¬ fok f n ∧ z = 0))) := by
  refine mk_Mo_readField rfl ?_
  refine tx_Mo_readField 3 ?_
  have S0 := SW.one 43 17 X 0
  show Go w K_Mo_readField 5 [some (.inr (.inr (7, 43))), some (.inl ((F + n : Nat) : Int)), none] [] (up X.1 43 17 0, X.2) _
  generalize ((up X.1 43 17 0, X.2) : XS) = X0 at S0 ⊢
  have M0 := S0.mff (by decide)
  have p0 : X0.1 43 14 = ((F + 0 : Nat) : Int) := (S0.2.2.1 14 (by decide)).trans hp
  have c0 : X0.1 43 17 = ((0 : Nat) : Int) := S0.2.2.2
  clear S0
  unfold fok fds
  refine sx_Mo_readField ?_
  refine ⟨trivial, _, mo_sgn w (h.ff M0) p0 122, fun z Y hq => ?_⟩
  rcases hq with ⟨t0, S, rfl⟩ | ⟨t0, rfl, rfl⟩
  case inr =>
    rw [if_neg t0]
    refine sx_Mo_readField ?_
    exact ⟨fun q => absurd rfl q, fun _ => ⟨Or.inl rfl, M0, p0, Or.inr ⟨fun z => absurd z.1 (by decide), rfl⟩⟩⟩
  rw [if_pos t0]
  have M1 := M0.tr (S.mff (by decide))
  have c1 : Y.1 43 17 = ((0 : Nat) : Int) := (S.2.2.1 17 (by decide)).trans c0
  have p1 : Y.1 43 14 = ((F + 1 : Nat) : Int) := S.2.2.2
  clear S
  refine sx_Mo_readField ?_
  refine ⟨fun _ => ?_, fun q => absurd q (by decide)⟩
  refine sx_Mo_readField ?_
  refine ⟨trivial, _, mo_dgt w (h.ff M1) (p := 1) p1 (l := 1) (u := 4) (a := 49) (b := 52) (by decide) (by decide) (by decide) (by decide), fun z Y1 hq => ?_⟩
  rcases hq with ⟨t1, S, rfl⟩ | ⟨t1, rfl, rfl⟩
  case inr =>
    rw [if_neg t1]
    have S1 := SW.one 43 15 Y1 (-9)
    refine sx_Mo_readField ?_
    refine ⟨fun q => ?_, fun _ => ⟨Or.inl rfl, M1.tr (S1.mff (by decide)), (S1.2.2.1 14 (by decide)).trans p1, Or.inr ⟨fun z => absurd z.1 (by decide), rfl⟩⟩⟩
    have q : up Y1.1 43 15 (-9) 43 15 ≠ -9 := q
    rw [up_row, u1_s] at q
    exact absurd rfl q
  rw [if_pos t1]
  have S1 := SW.one 43 15 Y1 (f 1 - 48)
  have M2 := (M1.tr (S.mff (by decide))).tr (S1.mff (by decide))
  have p2 := (S1.2.2.1 14 (by decide)).trans S.2.2.2
  have c2 := (S1.2.2.1 17 (by decide)).trans ((S.2.2.1 17 (by decide)).trans c1)
  have d2 := S1.2.2.2
  refine sx_Mo_readField ?_
  refine ⟨fun _ => ?_, fun q => ?_⟩
  case refine_2 =>
    have q : up Y1.1 43 15 (f 1 - 48) 43 15 = -9 := q
    rw [up_row, u1_s] at q
    omega
  generalize ((up Y1.1 43 15 (f 1 - 48), Y1.2) : XS) = Y2 at M2 p2 c2 d2 ⊢
  clear S S1
  refine sx_Mo_readField ?_
  refine ⟨trivial, _, mo_dgt w (h.ff M2) (p := 2) p2 (l := 2) (u := 5) (a := 50) (b := 53) (by decide) (by decide) (by decide) (by decide), fun z Y3 hq => ?_⟩
  rcases hq with ⟨t2, S, rfl⟩ | ⟨t2, rfl, rfl⟩
  case inr =>
    rw [if_neg t2]
    have S1 := SW.one 43 16 Y3 (-9)
    refine sx_Mo_readField ?_
    refine ⟨fun q => ?_, fun _ => ⟨Or.inl rfl, M2.tr (S1.mff (by decide)), (S1.2.2.1 14 (by decide)).trans p2, Or.inr ⟨fun z => absurd z.1 (by decide), rfl⟩⟩⟩
    have q : up Y3.1 43 16 (-9) 43 16 ≠ -9 := q
    rw [up_row, u1_s] at q
    exact absurd rfl q
  rw [if_pos t2]
  obtain ⟨⟨eh, ev⟩, r1, r2, r3, r4⟩ := fhw t1 t2
  have S1 := SW.one 43 16 Y3 (f 2 - 48)
  have M3 := (M2.tr (S.mff (by decide))).tr (S1.mff (by decide))
  have p3 := (S1.2.2.1 14 (by decide)).trans S.2.2.2
  have c3 := (S1.2.2.1 17 (by decide)).trans ((S.2.2.1 17 (by decide)).trans c2)
  have d3 := (S1.2.2.1 15 (by decide)).trans ((S.2.2.1 15 (by decide)).trans d2)
  have e3 := S1.2.2.2
  refine sx_Mo_readField ?_
  refine ⟨fun _ => ?_, fun q => ?_⟩
  case refine_2 =>
    have q : up Y3.1 43 16 (f 2 - 48) 43 16 = -9 := q
    rw [up_row, u1_s] at q
    omega
  generalize ((up Y3.1 43 16 (f 2 - 48), Y3.2) : XS) = Y4 at M3 p3 c3 d3 e3 ⊢
  clear S S1
  rw [eh] at d3
  rw [ev] at e3
  have n3 : 3 ≤ n := by omega
  refine tx_Mo_readField 2 ?_
  generalize hv : fw2 f = v at r2 r3 r4 e3 ⊢
  generalize hh : fh f = u at r1 r3 r4 d3 ⊢
  have L : ∀ j, j ≤ u * v → ∀ (c : Int) (Z : XS), c = (j : Int) → (rd f n v j).1 = 0 → RFc F u v n f (rd f n v j) X Z → Go w K_Mo_readField 63 [some (.inr (.inr (7, 43))), some (.inl ((F + n : Nat) : Int)), some (.inl c)] [] Z (fun z Y => MFF X Y ∧ Y.1 43 14 = ((F + (rd f n v (u * v)).2.1 : Nat) : Int) ∧ ((((rd f n v (u * v)).1 = 0 ∧ (rd f n v (u * v)).2.1 = n) ∧ z = 1 ∧ RFc F u v n f (rd f n v (u * v)) X Y) ∨ (¬ ((rd f n v (u * v)).1 = 0 ∧ (rd f n v (u * v)).2.1 = n) ∧ z = 0))) := by
    refine lp ?_
    intro j hj ih c Z hc h0 hZ
    subst hc
    have ri := rd_ri (f := f) (w := v) n3 j
    have z15 := hZ.2.1
    have z16 := hZ.2.2.1
    have ej : True → wr (Z.1 43 15 * Z.1 43 16) = ((u * v : Nat) : Int) := fun _ => by rw [z15, z16, ← Int.natCast_mul, wr_id (by omega) (by omega)]
    refine sx_Mo_readField ?_
    refine ⟨fun q => ?_, fun q => ?_⟩
    · have q : wr (Z.1 43 15 * Z.1 43 16) ≤ (j : Int) := q
      rw [ej trivial] at q
      clear ej
      have e : j = u * v := by omega
      rw [e] at h0 hZ
      have z14 := hZ.2.2.2.1
      refine sx_Mo_readField ?_
      refine ⟨fun q2 => ?_, fun q2 => ?_⟩
      · have q2 : Z.1 43 14 ≠ ((F + n : Nat) : Int) := q2
        refine sx_Mo_readField ?_
        exact ⟨Or.inl rfl, hZ.1, hZ.2.2.2.1, Or.inr ⟨fun z => by omega, rfl⟩⟩
      · have q2 : Z.1 43 14 = ((F + n : Nat) : Int) := q2
        refine sx_Mo_readField ?_
        exact ⟨Or.inr rfl, hZ.1, hZ.2.2.2.1, Or.inl ⟨⟨h0, by omega⟩, rfl, hZ⟩⟩
    · have q : (j : Int) < wr (Z.1 43 15 * Z.1 43 16) := q
      rw [ej trivial] at q
      clear ej
      have hjn : j < u * v := by omega
      have BAD : (rd f n v (j + 1)).1 ≠ 0 → rd f n v (u * v) = rd f n v (j + 1) := fun hb => by
        rw [show u * v = j + 1 + (u * v - (j + 1)) by omega, rd_bad hb]
      have NX : ∀ Z1 : XS, (rd f n v (j + 1)).1 = 0 → RFc F u v n f (rd f n v (j + 1)) X Z1 → Go w K_Mo_readField 118 [some (.inr (.inr (7, 43))), some (.inl ((F + n : Nat) : Int)), some (.inl (j : Int))] [] Z1 (fun z Y => MFF X Y ∧ Y.1 43 14 = ((F + (rd f n v (u * v)).2.1 : Nat) : Int) ∧ ((((rd f n v (u * v)).1 = 0 ∧ (rd f n v (u * v)).2.1 = n) ∧ z = 1 ∧ RFc F u v n f (rd f n v (u * v)) X Y) ∨ (¬ ((rd f n v (u * v)).1 = 0 ∧ (rd f n v (u * v)).2.1 = n) ∧ z = 0))) := by
        intro Z1 g0 g1
        refine sx_Mo_readField ?_
        exact ih hjn _ Z1 (w1 rfl (by omega)) g0 g1
      have T97 : ∀ (Z1 : XS) (s : RS), s.1 = 0 → RI n j s → bdy f n j s = rd f n v (j + 1) → RFc F u v n f s X Z1 → Go w K_Mo_readField 97 [some (.inr (.inr (7, 43))), some (.inl ((F + n : Nat) : Int)), some (.inl (j : Int))] [] Z1 (fun z Y => MFF X Y ∧ Y.1 43 14 = ((F + (rd f n v (u * v)).2.1 : Nat) : Int) ∧ ((((rd f n v (u * v)).1 = 0 ∧ (rd f n v (u * v)).2.1 = n) ∧ z = 1 ∧ RFc F u v n f (rd f n v (u * v)) X Y) ∨ (¬ ((rd f n v (u * v)).1 = 0 ∧ (rd f n v (u * v)).2.1 = n) ∧ z = 0))) := by
        intro Z1 s hs0 hI hB hZ1
        obtain ⟨a1, a2, a3, a4, a5⟩ := hZ1
        refine sx_Mo_readField ?_
        refine ⟨trivial, _, mo_sgn w (h.ff a1) a4 46, fun z Z2 hq => ?_⟩
        rcases hq with ⟨t, S, rfl⟩ | ⟨t, rfl, rfl⟩
        · have e : rd f n v (j + 1) = (0, s.2.1 + 1, s.2.2) := by
            rw [← hB]
            unfold bdy
            rw [if_neg (fun z => z hs0), if_pos t]
          refine sx_Mo_readField ?_
          refine ⟨fun _ => ?_, fun q => absurd q (by decide)⟩
          exact NX Z2 (by rw [e]) (by rw [e]; exact ⟨a1.tr (S.mff (by decide)), (S.2.2.1 15 (by decide)).trans a2, (S.2.2.1 16 (by decide)).trans a3, S.2.2.2, a5.sw S⟩)
        · refine sx_Mo_readField ?_
          refine ⟨fun q => absurd rfl q, fun _ => ?_⟩
          refine ⟨trivial, _, mo_rdMan w (h.ff a1) a4 a5 hI.2.2.1 (c := j), fun z Z3 hq => ?_⟩
          obtain ⟨g1, g2, g3⟩ := hq
          rcases g3 with ⟨g3, rfl, g4⟩ | ⟨g3, rfl⟩
          · have e : rd f n v (j + 1) = (0, s.2.1 + 4, s.2.2.1 + 1, uM f s.2.1 s.2.2.1 j s.2.2.2) := by
              rw [← hB]
              unfold bdy
              rw [if_neg (fun z => z hs0), if_neg t, if_pos g3]
            refine sx_Mo_readField ?_
            refine ⟨fun _ => ?_, fun q => absurd q (by decide)⟩
            exact NX Z3 (by rw [e]) (by rw [e]; exact ⟨a1.tr g1.mff, (g1.2.2 15 (by decide) (by decide)).trans a2, (g1.2.2 16 (by decide) (by decide)).trans a3, by rw [g3] at g2; exact g2, g4⟩)
          · have e : rd f n v (j + 1) = (1, s.2.1 + mln f n s.2.1 s.2.2.1, s.2.2) := by
              rw [← hB]
              unfold bdy
              rw [if_neg (fun z => z hs0), if_neg t, if_neg g3]
            have eb : (rd f n v (j + 1)).1 ≠ 0 := by rw [e]; show (1 : Int) ≠ 0; decide
            rw [BAD eb]
            refine sx_Mo_readField ?_
            exact ⟨fun q => absurd rfl q, fun _ => ⟨Or.inl rfl, a1.tr g1.mff, by rw [e]; exact g2, Or.inr ⟨fun z => eb z.1, rfl⟩⟩⟩
      have em : (j : Int) % (v : Int) = ((j % v : Nat) : Int) := rfl
      refine ⟨(by omega), (by omega), fun q2 => ?_, fun q2 => ?_⟩
      · have q2 : (j : Int) % Z.1 43 16 ≠ 0 := q2
        rw [z16, em] at q2
        exact T97 Z (rd f n v j) h0 ri (by rw [rd_s, s59_id (fun z => q2 (by rw [z]; rfl))]) hZ
      · have q2 : (j : Int) % Z.1 43 16 = 0 := q2
        rw [z16, em] at q2
        have qm : j % v = 0 := by omega
        obtain ⟨a1, a2, a3, a4, a5⟩ := hZ
        refine ⟨trivial, _, mo_sgn w (h.ff a1) a4 59, fun z Z2 hq => ?_⟩
        rcases hq with ⟨t, S, rfl⟩ | ⟨t, rfl, rfl⟩
        · have e : s59 f n v j (rd f n v j) = (0, (rd f n v j).2.1 + 1, (rd f n v j).2.2) := by
            unfold s59
            rw [if_neg (fun z => z h0), if_pos qm, if_pos t]
          have ri0 := s59_ri (f := f) (w := v) ri
          rw [e] at ri0
          refine sx_Mo_readField ?_
          refine ⟨fun _ => ?_, fun q => absurd q (by decide)⟩
          exact T97 Z2 (0, (rd f n v j).2.1 + 1, (rd f n v j).2.2) rfl ri0 (by rw [rd_s, e]) ⟨a1.tr (S.mff (by decide)), (S.2.2.1 15 (by decide)).trans a2, (S.2.2.1 16 (by decide)).trans a3, S.2.2.2, a5.sw S⟩
        · have e : rd f n v (j + 1) = (1, (rd f n v j).2) := by
            rw [rd_s]
            unfold s59
            rw [if_neg (fun z => z h0), if_pos qm, if_neg t]
            exact bdy_bad (by show (1 : Int) ≠ 0; decide)
          have eb : (rd f n v (j + 1)).1 ≠ 0 := by rw [e]; show (1 : Int) ≠ 0; decide
          rw [BAD eb]
          refine sx_Mo_readField ?_
          exact ⟨fun q => absurd rfl q, fun _ => ⟨Or.inl rfl, a1, by rw [e]; exact a4, Or.inr ⟨fun z => eb z.1, rfl⟩⟩⟩
  exact L 0 (Nat.zero_le _) 0 Y4 rfl rfl ⟨M3, d3, e3, p3, c3, fun j hj => absurd hj (Nat.not_lt_zero j)⟩
