/-- the whole text -/
abbrev fh (f : Nat → Int) : Nat := (f 1 - 48).toNat
abbrev fw2 (f : Nat → Int) : Nat := (f 2 - 48).toNat
def fds (f : Nat → Int) (n : Nat) : RS := if tk f n 0 122 122 then (if tk f n 1 49 52 then (if tk f n 2 50 53 then rd f n (fw2 f) (fh f * fw2 f) else (1, 2, 0, fun _ _ => 0)) else (1, 1, 0, fun _ _ => 0)) else (1, 0, 0, fun _ _ => 0)
theorem fhw {f : Nat → Int} {n : Nat} (t1 : tk f n 1 49 52) (t2 : tk f n 2 50 53) : (f 1 - 48 = (fh f : Int) ∧ f 2 - 48 = (fw2 f : Int)) ∧ (1 ≤ fh f ∧ fh f ≤ 4) ∧ (2 ≤ fw2 f ∧ fw2 f ≤ 5) ∧ fh f * fw2 f ≤ 20 ∧ 2 ≤ fh f * fw2 f := by
  have a : (1 ≤ fh f ∧ fh f ≤ 4) ∧ (2 ≤ fw2 f ∧ fw2 f ≤ 5) := by unfold fh fw2; omega
  refine ⟨by unfold fh fw2; omega, a.1, a.2, ?_⟩
  generalize fh f = x at a ⊢
  generalize fw2 f = y at a ⊢
  rcases (show x = 1 ∨ x = 2 ∨ x = 3 ∨ x = 4 by omega) with rfl | rfl | rfl | rfl <;> omega
def RFr (b : Nat) (X Y : XS) : Prop := (∀ r, r ≠ 11 → r < b ∨ b + 7 < r → Y.1 r = X.1 r) ∧ ∀ j, j ≠ 2 → Y.2 j = X.2 j
abbrev fok (f : Nat → Int) (n : Nat) : Prop := (fds f n).1 = 0 ∧ (fds f n).2.1 = n
theorem c_rdInto (w : WD) {X : XS} {k i n : Nat} {f : Nat → Int} (hk : k < 4) (h4 : ((i + n : Nat) : Int) ≤ X.1 (3 + 2 * k) 3) (h5 : X.1 (3 + 2 * k) 3 ≤ 60) (h6 : ∀ t, t < n → X.1 (3 + 2 * k + 1) (i + t) = f t) {b : Nat} (hb : b = 27 ∨ b = 35) : MS w M_Tr_readInto [.inr (.inr (5, 11)), .inr (.inr (1, b)), .inr (.inr (3, 3 + 2 * k)), .inl (i : Int), .inl (n : Int)] X (fun z Y => RFr b X Y ∧ Y.1 11 1 = ((i + (fds f n).2.1 : Nat) : Int) ∧ ((fok f n ∧ z = 1 ∧ HC b (fw2 f) (fh f * fw2 f) (fds f n).2.2.1 (fds f n).2.2.2 Y) ∨ (¬ fok f n ∧ z = 0))) := by
  have ew : True → wr ((i : Int) + (n : Int)) = ((i + n : Nat) : Int) := fun _ => by rw [wr_id (by omega) (by omega)]; omega
  refine mk_Tr_readInto rfl ?_
  refine tx_Tr_readInto 11 ?_
  show Go w K_Tr_readInto 18 [some (.inr (.inr (5, 11))), some (.inr (.inr (1, b))), some (.inr (.inr (3, 3 + 2 * k))), some (.inl (i : Int)), some (.inl (n : Int)), none, none, none] [] (up (up X.1 11 1 (i : Int)) 11 2 (wr ((i : Int) + (n : Int))), upr X.2 2 (3 + 2 * k)) _
  rw [ew trivial]
  clear ew
  have R11 : ∀ r, r ≠ 11 → up (up X.1 11 1 (i : Int)) 11 2 ((i + n : Nat) : Int) r = X.1 r := fun r hr => by rw [up_ne hr, up_ne hr]
  have hR : RC k i n f (up (up X.1 11 1 (i : Int)) 11 2 ((i + n : Nat) : Int), upr X.2 2 (3 + 2 * k)) := by
    refine ⟨hk, rfl, ?_, ?_, ?_, fun t ht => ?_⟩
    · show up (up X.1 11 1 (i : Int)) 11 2 ((i + n : Nat) : Int) 11 2 = _
      rw [up_row, u1_s]
    · rw [show (up (up X.1 11 1 (i : Int)) 11 2 ((i + n : Nat) : Int), upr X.2 2 (3 + 2 * k)).1 (3 + 2 * k) = X.1 (3 + 2 * k) from R11 _ (by omega)]; exact h4
    · rw [show (up (up X.1 11 1 (i : Int)) 11 2 ((i + n : Nat) : Int), upr X.2 2 (3 + 2 * k)).1 (3 + 2 * k) = X.1 (3 + 2 * k) from R11 _ (by omega)]; exact h5
    · rw [show (up (up X.1 11 1 (i : Int)) 11 2 ((i + n : Nat) : Int), upr X.2 2 (3 + 2 * k)).1 (3 + 2 * k + 1) = X.1 (3 + 2 * k + 1) from R11 _ (by omega)]; exact h6 t ht
  have hp0 : (up (up X.1 11 1 (i : Int)) 11 2 ((i + n : Nat) : Int), upr X.2 2 (3 + 2 * k)).1 11 1 = ((i + 0 : Nat) : Int) := by
    show up (up X.1 11 1 (i : Int)) 11 2 ((i + n : Nat) : Int) 11 1 = _
    rw [up_row, u1_n (by omega), up_row, u1_s]; rfl
  have FR : ∀ Y : XS, CFh b (up (up X.1 11 1 (i : Int)) 11 2 ((i + n : Nat) : Int), upr X.2 2 (3 + 2 * k)) Y → RFr b X Y := fun Y g => ⟨fun r p q => (g.1 r p q).trans (R11 r p), fun j hj => by rw [g.2.1]; exact if_neg hj⟩
  generalize ((up (up X.1 11 1 (i : Int)) 11 2 ((i + n : Nat) : Int), upr X.2 2 (3 + 2 * k)) : XS) = X1 at hR hp0 FR ⊢
  clear R11
  unfold fok fds
  refine sx_Tr_readInto ?_
  refine ⟨trivial, _, c_tk w hR hp0 122 122, fun z Y hq => ?_⟩
  rcases hq with ⟨t0, S0, rfl⟩ | ⟨t0, rfl, rfl⟩
  case inr =>
    rw [if_neg t0]
    refine sx_Tr_readInto ?_
    exact ⟨fun q => absurd (show (0 : Int) ≤ -9 from q) (by decide), fun _ => ⟨Or.inl rfl, FR _ (CFh.rf b Y), hp0, Or.inr ⟨fun z => absurd z.1 (by decide), rfl⟩⟩⟩
  rw [if_pos t0]
  refine sx_Tr_readInto ?_
  refine ⟨fun _ => ?_, fun q => absurd (show f 0 < 0 from q) (by omega)⟩
  refine sx_Tr_readInto ?_
  refine ⟨trivial, _, c_dg w (hR.cf hb (S0.cf (b := b))) (p := 1) S0.2.2.2 (l := 1) (u := 4) (a := 49) (b := 52) (by decide) (by decide) (by decide) (by decide), fun z Y1 hq => ?_⟩
  rcases hq with ⟨t1, S1, rfl⟩ | ⟨t1, rfl, rfl⟩
  case inr =>
    rw [if_neg t1]
    refine sx_Tr_readInto ?_
    exact ⟨fun q => absurd (show (0 : Int) ≤ -9 from q) (by decide), fun _ => ⟨Or.inl rfl, FR _ S0.cf, S0.2.2.2, Or.inr ⟨fun z => absurd z.1 (by decide), rfl⟩⟩⟩
  rw [if_pos t1]
  have S1 := S0.tr S1
  refine sx_Tr_readInto ?_
  refine ⟨fun _ => ?_, fun q => absurd (show f 1 - 48 < 0 from q) (by omega)⟩
  refine sx_Tr_readInto ?_
  refine ⟨trivial, _, c_dg w (hR.cf hb (S1.cf (b := b))) (p := 2) S1.2.2.2 (l := 2) (u := 5) (a := 50) (b := 53) (by decide) (by decide) (by decide) (by decide), fun z Y2 hq => ?_⟩
  rcases hq with ⟨t2, S2, rfl⟩ | ⟨t2, rfl, rfl⟩
  case inr =>
    rw [if_neg t2]
    refine sx_Tr_readInto ?_
    exact ⟨fun q => absurd (show (0 : Int) ≤ -9 from q) (by decide), fun _ => ⟨Or.inl rfl, FR _ S1.cf, S1.2.2.2, Or.inr ⟨fun z => absurd z.1 (by decide), rfl⟩⟩⟩
  rw [if_pos t2]
  have S2 := S1.tr S2
  obtain ⟨⟨eh, ev⟩, r1, r2, r3, r4⟩ := fhw t1 t2
  rw [eh, ev]
  refine sx_Tr_readInto ?_
  refine ⟨fun _ => ?_, fun q => absurd (show (fw2 f : Int) < 0 from q) (by omega)⟩
  refine sx_Tr_readInto ?_
  refine ⟨trivial, _, c_clear w hb r3, fun _ Y3 hq => ?_⟩
  obtain ⟨g1, g2, g3⟩ := hq
  have C3 := S2.cf.tr g1
  have p3 : Y3.1 11 1 = ((i + 3 : Nat) : Int) := by rw [g2]; exact S2.2.2.2
  have n3 : 3 ≤ n := by omega
  refine tx_Tr_readInto 2 ?_
  have L : ∀ j, j ≤ fh f → ∀ (c : Int) (Z : XS), c = (j : Int) → CFh b X1 Z → (rd f n (fw2 f) (j * fw2 f)).1 = 0 → Z.1 11 1 = ((i + (rd f n (fw2 f) (j * fw2 f)).2.1 : Nat) : Int) → HC b (fw2 f) (fh f * fw2 f) (rd f n (fw2 f) (j * fw2 f)).2.2.1 (rd f n (fw2 f) (j * fw2 f)).2.2.2 Z → Go w K_Tr_readInto 72 [some (.inr (.inr (5, 11))), some (.inr (.inr (1, b))), some (.inr (.inr (3, 3 + 2 * k))), some (.inl (i : Int)), some (.inl (n : Int)), some (.inl (fh f : Int)), some (.inl (fw2 f : Int)), some (.inl c)] [] Z (fun z Y => RFr b X Y ∧ Y.1 11 1 = ((i + (rd f n (fw2 f) (fh f * fw2 f)).2.1 : Nat) : Int) ∧ ((((rd f n (fw2 f) (fh f * fw2 f)).1 = 0 ∧ (rd f n (fw2 f) (fh f * fw2 f)).2.1 = n) ∧ z = 1 ∧ HC b (fw2 f) (fh f * fw2 f) (rd f n (fw2 f) (fh f * fw2 f)).2.2.1 (rd f n (fw2 f) (fh f * fw2 f)).2.2.2 Y) ∨ (¬ ((rd f n (fw2 f) (fh f * fw2 f)).1 = 0 ∧ (rd f n (fw2 f) (fh f * fw2 f)).2.1 = n) ∧ z = 0))) := by
    refine lp ?_
    intro j hj ih c Z hc hC h0 hz hH
    subst hc
    have hRz := hR.cf hb hC
    have hend := hRz.2.2.1
    refine sx_Tr_readInto ?_
    refine ⟨fun q => ?_, fun q => ?_⟩
    · have q : (fh f : Int) ≤ (j : Int) := q
      have e : j = fh f := by omega
      rw [e] at h0 hz hH
      refine sx_Tr_readInto ?_
      refine ⟨fun q2 => ?_, fun q2 => ?_⟩
      · have q2 : Z.1 11 1 ≠ Z.1 11 2 := q2
        refine sx_Tr_readInto ?_
        exact ⟨Or.inl rfl, FR _ hC, hz, Or.inr ⟨fun z => by omega, rfl⟩⟩
      · have q2 : Z.1 11 1 = Z.1 11 2 := q2
        refine sx_Tr_readInto ?_
        exact ⟨Or.inr rfl, FR _ hC, hz, Or.inl ⟨⟨h0, by omega⟩, rfl, hH⟩⟩
    · have q : (j : Int) < (fh f : Int) := q
      have hjn : j < fh f := by omega
      have hle : j * fw2 f + fw2 f ≤ fh f * fw2 f := by
        have := Nat.mul_le_mul_right (fw2 f) (show j + 1 ≤ fh f by omega)
        rw [Nat.succ_mul] at this
        exact this
      have ej : True → wr ((j : Int) * (fw2 f : Int)) = ((j * fw2 f : Nat) : Int) := fun _ => by
        rw [← Int.natCast_mul, wr_id (by omega) (by omega)]
      have A := c_line w hRz n3 hb r2 r3 hle h0 hz hH
      rw [← ej trivial] at A
      clear ej
      refine ⟨trivial, _, A, fun z Z1 hq => ?_⟩
      clear A
      obtain ⟨g4, g5, g6⟩ := hq
      rcases g6 with ⟨g6, rfl, g7⟩ | ⟨g6, rfl⟩
      · refine sx_Tr_readInto ?_
        refine ⟨fun _ => ?_, fun q => absurd q (by decide)⟩
        refine sx_Tr_readInto ?_
        have em : (j + 1) * fw2 f = j * fw2 f + fw2 f := Nat.succ_mul j (fw2 f)
        exact ih hjn _ Z1 (w1 rfl (by omega)) (hC.tr g4) (by rw [em]; exact g6) (by rw [em]; exact g5) (by rw [em]; exact g7)
      · have e2 : rd f n (fw2 f) (fh f * fw2 f) = rd f n (fw2 f) (j * fw2 f + fw2 f) := by
          rw [show fh f * fw2 f = j * fw2 f + fw2 f + (fh f * fw2 f - (j * fw2 f + fw2 f)) by omega, rd_bad g6]
        rw [e2]
        refine sx_Tr_readInto ?_
        exact ⟨fun q => absurd rfl q, fun _ => ⟨Or.inl rfl, FR _ (hC.tr g4), g5, Or.inr ⟨fun z => g6 z.1, rfl⟩⟩⟩
  have e0 : rd f n (fw2 f) (0 * fw2 f) = (0, 3, 0, fun _ _ => 0) := by rw [Nat.zero_mul]; rfl
  exact L 0 (Nat.zero_le _) 0 Y3 rfl C3 (by rw [e0]) (by rw [e0]; exact p3) (by rw [e0]; exact g3)
