/-- kk codes of a man are read -/
def QZ (F p m c : Nat) (f : Nat → Int) (M : Nat → Nat → Int) (X : XS) (kk : Nat) (Z : XS) : Prop := MFr X Z ∧ Z.1 43 14 = ((F + (p + kk) : Nat) : Int) ∧ Z.1 43 17 = (m : Int) ∧ (∀ q, q < 5 * m → Z.1 52 q = X.1 52 q) ∧ ∀ a, a < kk → Z.1 52 (5 * m + a) = uM f p m c M m a
abbrev LM (F n m c : Nat) (cd kd : Int) (x : Int) : List (Option V) := [some (.inr (.inr (7, 43))), some (.inl ((F + n : Nat) : Int)), some (.inl (c : Int)), some (.inl ((5 * m : Nat) : Int)), some (.inl cd), some (.inl kd), some (.inl x)]
theorem mo_rdK (w : WD) {F n : Nat} {f : Nat → Int} {X : XS} (h : RCm F n f X) {p m c : Nat} {M : Nat → Nat → Int} (hm : m < 8) {cd kd : Int} {kk : Nat} {a b : Int} (hk : kk = 1 ∧ a = 48 ∧ b = 49 ∨ (kk = 2 ∨ kk = 3) ∧ a = 49 ∧ b = 57) {Z : XS} (hZ : QZ F p m c f M X kk Z) (hu : tk f n (p + kk) a b → f (p + kk) - 48 = uM f p m c M m kk) {Q : Int → XS → Prop} (hN : ¬ tk f n (p + kk) a b → ∀ Y : XS, MFr X Y → Y.1 43 14 = ((F + (p + kk) : Nat) : Int) → Q 0 Y) (hO : tk f n (p + kk) a b → ∀ Y : XS, QZ F p m c f M X (kk + 1) Y → Go w K_Mo_readMan 106 (LM F n m c cd kd ((kk + 1 : Nat) : Int)) [] Y Q) : Go w K_Mo_readMan 106 (LM F n m c cd kd (kk : Int)) [] Z Q := by
  obtain ⟨z1, z2, z3, z4, z5⟩ := hZ
  have hkk : 1 ≤ kk ∧ kk ≤ 3 := by omega
  have T145 : ∀ l u : Int, wr (48 + l) = a → wr (48 + u) = b → Go w K_Mo_readMan 145 (LM F n m c cd kd (kk : Int)) [.inl u, .inl l, .inl ((F + n : Nat) : Int), .inr (.inr (7, 43)), .inl (wr (((5 * m : Nat) : Int) + (kk : Int))), .inr (.inr (8, 52))] Z Q := by
    intro l u e1 e2
    have A := mo_dgt w (h.fr z1) (p := p + kk) z2 e1 e2 (by omega) (by omega)
    clear e1 e2
    refine sx_Mo_readMan ?_
    refine ⟨trivial, _, A, fun z Y hq => ?_⟩
    clear A
    rcases hq with ⟨t, S, rfl⟩ | ⟨t, rfl, rfl⟩
    · refine sx_Mo_readMan ?_
      refine ⟨(ix5b hm (by omega)).1, (ix5b hm (by omega)).2, (ix5b hm (by omega)).1, (ix5b hm (by omega)).2, fun q => ?_, fun q => ?_⟩
      · rw [ix5 (m := m) (k := kk) (by omega) (by omega), Int.toNat_natCast]
        refine sx_Mo_readMan ?_
        have G := hO t (up Y.1 52 (5 * m + kk) (f (p + kk) - 48), Y.2) ⟨z1.tr (S.mfr.tr (MFr.r52 Y _ _)), ?_, ?_, fun q hq => ?_, fun a ha => ?_⟩
        · rw [← w1 (c := (kk : Int)) (j := kk) rfl (by omega)] at G
          exact G
        · show up Y.1 52 (5 * m + kk) (f (p + kk) - 48) 43 14 = _
          rw [up_ne (by omega)]; exact S.2.2.2
        · show up Y.1 52 (5 * m + kk) (f (p + kk) - 48) 43 17 = _
          rw [up_ne (by omega), S.2.2.1 17 (by omega)]; exact z3
        · show up Y.1 52 (5 * m + kk) (f (p + kk) - 48) 52 q = _
          rw [up_row, u1_n (by omega), S.1 52 (by omega)]; exact z4 q hq
        · show up Y.1 52 (5 * m + kk) (f (p + kk) - 48) 52 (5 * m + a) = _
          rw [up_row]
          by_cases e : a = kk
          · subst e; rw [u1_s]; exact hu t
          · rw [u1_n (by omega), S.1 52 (by omega)]; exact z5 a (by omega)
      · rw [ix5 (m := m) (k := kk) (by omega) (by omega), Int.toNat_natCast] at q
        have q : up Y.1 52 (5 * m + kk) (f (p + kk) - 48) 52 (5 * m + kk) = -9 := q
        rw [up_row, u1_s] at q
        omega
    · refine sx_Mo_readMan ?_
      refine ⟨(ix5b hm (by omega)).1, (ix5b hm (by omega)).2, (ix5b hm (by omega)).1, (ix5b hm (by omega)).2, fun q => ?_, fun q => ?_⟩
      · rw [ix5 (m := m) (k := kk) (by omega) (by omega), Int.toNat_natCast] at q
        have q : up Y.1 52 (5 * m + kk) (-9) 52 (5 * m + kk) ≠ -9 := q
        rw [up_row, u1_s] at q
        exact absurd rfl q
      · refine ⟨Or.inl rfl, hN t _ (z1.tr (MFr.r52 Y _ _)) ?_⟩
        show up Y.1 52 (wr (((5 * m : Nat) : Int) + (kk : Int))).toNat (-9) 43 14 = _
        rw [up_ne (by omega)]; exact z2
  rcases hk with ⟨hk, ha, hb⟩ | ⟨hk, ha, hb⟩
  · subst hk
    subst ha
    subst hb
    have G := T145 0 1 (by decide) (by decide)
    clear T145
    refine sx_Mo_readMan ?_
    refine ⟨fun q => absurd (show (4 : Int) ≤ ((1 : Nat) : Int) from q) (by decide), fun _ => ⟨fun q => absurd rfl q, fun _ => ?_⟩⟩
    refine sx_Mo_readMan ?_
    refine ⟨fun q => absurd rfl q, fun _ => ?_⟩
    exact G
  · subst ha
    subst hb
    have G := T145 1 9 (by decide) (by decide)
    clear T145
    refine sx_Mo_readMan ?_
    refine ⟨fun q => absurd (show (4 : Int) ≤ (kk : Int) from q) (by omega), fun _ => ⟨fun _ => ?_, fun q => absurd (show (kk : Int) = 1 from q) (by omega)⟩⟩
    refine sx_Mo_readMan ?_
    refine ⟨fun _ => ?_, fun q => absurd (show (kk : Int) = 1 from q) (by omega)⟩
    refine tx_Mo_readMan 1 ?_
    exact G
