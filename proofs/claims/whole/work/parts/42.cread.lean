/-! ===== the class reads ===== -/
def RC (k i n : Nat) (f : Nat → Int) (X : XS) : Prop := k < 4 ∧ X.2 2 = 3 + 2 * k ∧ X.1 11 2 = ((i + n : Nat) : Int) ∧ ((i + n : Nat) : Int) ≤ X.1 (3 + 2 * k) 3 ∧ X.1 (3 + 2 * k) 3 ≤ 60 ∧ ∀ t, t < n → X.1 (3 + 2 * k + 1) (i + t) = f t
def CFh (b : Nat) (X Y : XS) : Prop := (∀ r, r ≠ 11 → r < b ∨ b + 7 < r → Y.1 r = X.1 r) ∧ Y.2 = X.2 ∧ Y.1 11 2 = X.1 11 2
theorem CFh.rf (b : Nat) (X : XS) : CFh b X X := ⟨fun _ _ _ => rfl, rfl, rfl⟩
theorem CFh.tr {b : Nat} {X Y Z : XS} (h : CFh b X Y) (g : CFh b Y Z) : CFh b X Z := ⟨fun r p q => (g.1 r p q).trans (h.1 r p q), g.2.1.trans h.2.1, g.2.2.trans h.2.2⟩
theorem SW.cf {b : Nat} {X Y : XS} {t : Int} (h : SW 11 1 X Y t) : CFh b X Y := ⟨fun r p _ => h.1 r p, h.2.1, h.2.2.1 2 (by decide)⟩
theorem AD.cf {b n c : Nat} {k d s a : Int} {X Y : XS} (hb : b = 27 ∨ b = 35) (h : AD b n c k d s a X Y) : CFh b X Y := ⟨fun r _ q => h.1 r q, h.2.1, by rw [h.1 11 (by omega)]⟩
theorem RC.cf {k i n b : Nat} {f : Nat → Int} {X Y : XS} (hb : b = 27 ∨ b = 35) (h : RC k i n f X) (g : CFh b X Y) : RC k i n f Y := by
  obtain ⟨h1, h2, h3, h4, h5, h6⟩ := h
  unfold RC
  rw [g.2.1, g.2.2, g.1 (3 + 2 * k) (by omega) (by omega), g.1 (3 + 2 * k + 1) (by omega) (by omega)]
  exact ⟨h1, h2, h3, h4, h5, h6⟩
theorem c_tk (w : WD) {k i n : Nat} {f : Nat → Int} {X : XS} (h : RC k i n f X) {p : Nat} (hp : X.1 11 1 = ((i + p : Nat) : Int)) (l u : Int) : MS w M_Tr_take [.inr (.inr (5, 11)), .inl l, .inl u] X (fun z Y => (tk f n p l u ∧ SW 11 1 X Y ((i + p + 1 : Nat) : Int) ∧ z = f p) ∨ (¬ tk f n p l u ∧ Y = X ∧ z = -9)) := by
  obtain ⟨h1, h2, h3, h4, h5, h6⟩ := h
  have hne : X.2 2 ≠ 0 := by omega
  refine mk_Tr_take rfl ?_
  refine sx_Tr_take ?_
  refine ⟨fun q => ?_, fun q => ⟨hne, ?_⟩⟩
  · have q : X.1 11 2 ≤ X.1 11 1 := q
    refine sx_Tr_take ?_
    exact ⟨trivial, Or.inr ⟨fun z => by omega, rfl, rfl⟩⟩
  · have q : X.1 11 1 < X.1 11 2 := q
    have hpn : p < n := by omega
    have A := c_at w (X := X) (k := k) (i := i + p) h1 (by omega) h5
    rw [h6 p hpn, ← h2, ← hp] at A
    refine sx_Tr_take ?_
    refine ⟨hne, trivial, _, A, fun z Y hq => ?_⟩
    obtain ⟨rfl, rfl⟩ := hq
    refine sx_Tr_take ?_
    refine ⟨fun q1 => ?_, fun q1 => ⟨fun q2 => ?_, fun q2 => ?_⟩⟩
    · have q1 : f p < l := q1
      refine sx_Tr_take ?_
      exact ⟨trivial, Or.inr ⟨fun z => by omega, rfl, rfl⟩⟩
    · have q1 : l ≤ f p := q1
      have q2 : f p ≤ u := q2
      have e : wr (Y.1 11 1 + 1) = ((i + p + 1 : Nat) : Int) := by rw [hp, wr_id (by omega) (by omega)]; omega
      have S := SW.one 11 1 Y (wr (Y.1 11 1 + 1))
      rw [e] at S
      clear e
      refine sx_Tr_take ?_
      refine ⟨trivial, Or.inl ⟨⟨hpn, q1, q2⟩, ?_, rfl⟩⟩
      show SW 11 1 Y (up Y.1 11 1 (wr (Y.1 11 1 + 1)), Y.2) _
      have e : wr (Y.1 11 1 + 1) = ((i + p + 1 : Nat) : Int) := by rw [hp, wr_id (by omega) (by omega)]; omega
      rw [e]
      exact SW.one 11 1 Y _
    · have q2 : u < f p := q2
      exact ⟨trivial, Or.inr ⟨fun z => by omega, rfl, rfl⟩⟩
theorem c_dg (w : WD) {k i n : Nat} {f : Nat → Int} {X : XS} (h : RC k i n f X) {p : Nat} (hp : X.1 11 1 = ((i + p : Nat) : Int)) {l u a b : Int} (ha : wr (48 + l) = a) (hb : wr (48 + u) = b) (h0 : 48 ≤ a) (h9 : b ≤ 57) : MS w M_Tr_digit [.inr (.inr (5, 11)), .inl l, .inl u] X (fun z Y => (tk f n p a b ∧ SW 11 1 X Y ((i + p + 1 : Nat) : Int) ∧ z = f p - 48) ∨ (¬ tk f n p a b ∧ Y = X ∧ z = -9)) := by
  have A := c_tk w h hp a b
  rw [← ha, ← hb] at A
  refine mk_Tr_digit rfl ?_
  refine sx_Tr_digit ?_
  refine ⟨trivial, _, A, fun z Y hq => ?_⟩
  rw [ha, hb] at hq
  clear A ha hb
  rcases hq with ⟨t, s, rfl⟩ | ⟨t, rfl, rfl⟩
  · refine sx_Tr_digit ?_
    refine ⟨fun _ => ?_, fun q => absurd (show f p < 0 from q) (by omega)⟩
    refine sx_Tr_digit ?_
    refine ⟨trivial, Or.inl ⟨t, s, ?_⟩⟩
    exact wr_id (by omega) (by omega)
  · refine sx_Tr_digit ?_
    refine ⟨fun q => absurd (show (0 : Int) ≤ -9 from q) (by decide), fun _ => ?_⟩
    refine sx_Tr_digit ?_
    exact ⟨trivial, Or.inr ⟨t, rfl, rfl⟩⟩
theorem c_letter (w : WD) {k i n : Nat} {f : Nat → Int} {X : XS} (h : RC k i n f X) {p : Nat} (hp : X.1 11 1 = ((i + p : Nat) : Int)) : MS w M_Tr_letter [.inr (.inr (5, 11))] X (fun z Y => ((p < n ∧ kdO (f p) ≠ -9) ∧ SW 11 1 X Y ((i + p + 1 : Nat) : Int) ∧ z = kdO (f p)) ∨ (¬ (p < n ∧ kdO (f p) ≠ -9) ∧ Y = X ∧ z = -9)) := by
  refine mk_Tr_letter rfl ?_
  refine tx_Tr_letter 2 ?_
  have T3 : (p < n → f p ≠ 109 ∧ f p ≠ 108 ∧ f p ≠ 97) → Go w K_Tr_letter 2 [some (.inr (.inr (5, 11))), some (.inl 3)] [] X (fun z Y => ((p < n ∧ kdO (f p) ≠ -9) ∧ SW 11 1 X Y ((i + p + 1 : Nat) : Int) ∧ z = kdO (f p)) ∨ (¬ (p < n ∧ kdO (f p) ≠ -9) ∧ Y = X ∧ z = -9)) := by
    intro hN
    refine sx_Tr_letter ?_
    refine ⟨fun _ => ?_, fun q => absurd (show (3 : Int) < 3 from q) (by decide)⟩
    refine sx_Tr_letter ?_
    refine ⟨trivial, Or.inr ⟨fun z => z.2 ?_, rfl, rfl⟩⟩
    obtain ⟨a1, a2, a3⟩ := hN z.1
    unfold kdO
    rw [if_neg a1, if_neg a2, if_neg a3]
  have T2 : (p < n → f p ≠ 109 ∧ f p ≠ 108) → Go w K_Tr_letter 2 [some (.inr (.inr (5, 11))), some (.inl 2)] [] X (fun z Y => ((p < n ∧ kdO (f p) ≠ -9) ∧ SW 11 1 X Y ((i + p + 1 : Nat) : Int) ∧ z = kdO (f p)) ∨ (¬ (p < n ∧ kdO (f p) ≠ -9) ∧ Y = X ∧ z = -9)) := by
    intro hN
    refine sx_Tr_letter ?_
    refine ⟨fun q => absurd (show (3 : Int) ≤ 2 from q) (by decide), fun _ => ?_⟩
    refine ⟨by decide, by decide, by decide, by decide, trivial, _, c_tk w h hp 97 97, fun z Y hq => ?_⟩
    rcases hq with ⟨t, s, rfl⟩ | ⟨t, rfl, rfl⟩
    · have e : f p = 97 := by omega
      have ek : kdO (f p) = 2 := by rw [e]; decide
      refine sx_Tr_letter ?_
      refine ⟨fun q => absurd (show f p < 0 from q) (by omega), fun _ => ⟨trivial, Or.inl ⟨⟨t.1, by rw [ek]; decide⟩, s, ek.symm⟩⟩⟩
    · refine sx_Tr_letter ?_
      refine ⟨fun _ => ?_, fun q => absurd (show (0 : Int) ≤ -9 from q) (by decide)⟩
      refine sx_Tr_letter ?_
      exact T3 (fun hpn => ⟨(hN hpn).1, (hN hpn).2, fun z => t ⟨hpn, by omega, by omega⟩⟩)
  have T1 : (p < n → f p ≠ 109) → Go w K_Tr_letter 2 [some (.inr (.inr (5, 11))), some (.inl 1)] [] X (fun z Y => ((p < n ∧ kdO (f p) ≠ -9) ∧ SW 11 1 X Y ((i + p + 1 : Nat) : Int) ∧ z = kdO (f p)) ∨ (¬ (p < n ∧ kdO (f p) ≠ -9) ∧ Y = X ∧ z = -9)) := by
    intro hN
    refine sx_Tr_letter ?_
    refine ⟨fun q => absurd (show (3 : Int) ≤ 1 from q) (by decide), fun _ => ?_⟩
    refine ⟨by decide, by decide, by decide, by decide, trivial, _, c_tk w h hp 108 108, fun z Y hq => ?_⟩
    rcases hq with ⟨t, s, rfl⟩ | ⟨t, rfl, rfl⟩
    · have e : f p = 108 := by omega
      have ek : kdO (f p) = 1 := by rw [e]; decide
      refine sx_Tr_letter ?_
      refine ⟨fun q => absurd (show f p < 0 from q) (by omega), fun _ => ⟨trivial, Or.inl ⟨⟨t.1, by rw [ek]; decide⟩, s, ek.symm⟩⟩⟩
    · refine sx_Tr_letter ?_
      refine ⟨fun _ => ?_, fun q => absurd (show (0 : Int) ≤ -9 from q) (by decide)⟩
      refine sx_Tr_letter ?_
      exact T2 (fun hpn => ⟨hN hpn, fun z => t ⟨hpn, by omega, by omega⟩⟩)
  refine sx_Tr_letter ?_
  refine ⟨fun q => absurd (show (3 : Int) ≤ 0 from q) (by decide), fun _ => ?_⟩
  refine ⟨by decide, by decide, by decide, by decide, trivial, _, c_tk w h hp 109 109, fun z Y hq => ?_⟩
  rcases hq with ⟨t, s, rfl⟩ | ⟨t, rfl, rfl⟩
  · have e : f p = 109 := by omega
    have ek : kdO (f p) = 0 := by rw [e]; decide
    refine sx_Tr_letter ?_
    refine ⟨fun q => absurd (show f p < 0 from q) (by omega), fun _ => ⟨trivial, Or.inl ⟨⟨t.1, by rw [ek]; decide⟩, s, ek.symm⟩⟩⟩
  · refine sx_Tr_letter ?_
    refine ⟨fun _ => ?_, fun q => absurd (show (0 : Int) ≤ -9 from q) (by decide)⟩
    refine sx_Tr_letter ?_
    exact T1 (fun hpn z => t ⟨hpn, by omega, by omega⟩)
