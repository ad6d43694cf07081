/-! ===== the reference reads ===== -/
def RCm (F n : Nat) (f : Nat → Int) (X : XS) : Prop := F + n ≤ 240 ∧ ∀ t, t < n → X.1 46 (F + t) = f t
def MFr (X Y : XS) : Prop := (∀ r, r ≠ 43 → r ≠ 52 → Y.1 r = X.1 r) ∧ Y.2 = X.2 ∧ ∀ q, q ≠ 14 → q ≠ 17 → Y.1 43 q = X.1 43 q
theorem MFr.rf (X : XS) : MFr X X := ⟨fun _ _ _ => rfl, rfl, fun _ _ _ => rfl⟩
theorem MFr.tr {X Y Z : XS} (h : MFr X Y) (g : MFr Y Z) : MFr X Z := ⟨fun r p q => (g.1 r p q).trans (h.1 r p q), g.2.1.trans h.2.1, fun q a b => (g.2.2 q a b).trans (h.2.2 q a b)⟩
theorem SW.mfr {X Y : XS} {t : Int} (h : SW 43 14 X Y t) : MFr X Y := ⟨fun r p _ => h.1 r p, h.2.1, fun q a _ => h.2.2.1 q a⟩
theorem MFr.r52 (X : XS) (s : Nat) (z : Int) : MFr X (up X.1 52 s z, X.2) := ⟨fun r _ p => up_ne p, rfl, fun q a b => by
  show up X.1 52 s z 43 q = _
  rw [up_ne (by decide)]⟩
theorem RCm.fr {F n : Nat} {f : Nat → Int} {X Y : XS} (h : RCm F n f X) (g : MFr X Y) : RCm F n f Y := ⟨h.1, fun t ht => by rw [g.1 46 (by decide) (by decide)]; exact h.2 t ht⟩
theorem mo_sgn (w : WD) {F n : Nat} {f : Nat → Int} {X : XS} (h : RCm F n f X) {p : Nat} (hp : X.1 43 14 = ((F + p : Nat) : Int)) (c : Int) : MS w M_Mo_isSign [.inr (.inr (7, 43)), .inl ((F + n : Nat) : Int), .inl c] X (fun z Y => (tk f n p c c ∧ SW 43 14 X Y ((F + p + 1 : Nat) : Int) ∧ z = 1) ∨ (¬ tk f n p c c ∧ Y = X ∧ z = 0)) := by
  obtain ⟨h1, h2⟩ := h
  refine mk_Mo_isSign rfl ?_
  refine sx_Mo_isSign ?_
  refine ⟨fun q => ?_, fun q => ?_⟩
  · have q : ((F + n : Nat) : Int) ≤ X.1 43 14 := q
    refine sx_Mo_isSign ?_
    exact ⟨Or.inl rfl, Or.inr ⟨fun z => by omega, rfl, rfl⟩⟩
  · have q : X.1 43 14 < ((F + n : Nat) : Int) := q
    have hpn : p < n := by omega
    have e : X.1 46 (X.1 43 14).toNat = f p := by rw [hp, Int.toNat_natCast]; exact h2 p hpn
    refine ⟨(by omega), (by show _ < ((240 : Nat) : Int); omega), fun q1 => ?_, fun q1 => ?_⟩
    · have q1 : X.1 46 (X.1 43 14).toNat = c := q1
      rw [e] at q1
      refine sx_Mo_isSign ?_
      refine ⟨Or.inr rfl, Or.inl ⟨⟨hpn, by omega, by omega⟩, ?_, rfl⟩⟩
      show SW 43 14 X (up X.1 43 14 (wr (X.1 43 14 + 1)), X.2) _
      have e : wr (X.1 43 14 + 1) = ((F + p + 1 : Nat) : Int) := by rw [hp, wr_id (by omega) (by omega)]; omega
      rw [e]
      exact SW.one 43 14 X _
    · have q1 : X.1 46 (X.1 43 14).toNat ≠ c := q1
      rw [e] at q1
      exact ⟨Or.inl rfl, Or.inr ⟨fun z => by omega, rfl, rfl⟩⟩
theorem mo_dgt (w : WD) {F n : Nat} {f : Nat → Int} {X : XS} (h : RCm F n f X) {p : Nat} (hp : X.1 43 14 = ((F + p : Nat) : Int)) {l u a b : Int} (ha : wr (48 + l) = a) (hb : wr (48 + u) = b) (h0 : 48 ≤ a) (h9 : b ≤ 57) : MS w M_Mo_digit [.inr (.inr (7, 43)), .inl ((F + n : Nat) : Int), .inl l, .inl u] X (fun z Y => (tk f n p a b ∧ SW 43 14 X Y ((F + p + 1 : Nat) : Int) ∧ z = f p - 48) ∨ (¬ tk f n p a b ∧ Y = X ∧ z = -9)) := by
  obtain ⟨h1, h2⟩ := h
  refine mk_Mo_digit rfl ?_
  have hA : True → ∀ x : Int, MS w M_Mo_within [.inl x, .inl (wr (48 + l)), .inl (wr (48 + u))] X (fun z Y => Y = X ∧ z = if a ≤ x ∧ x ≤ b then 1 else 0) := fun _ x => by
    have := mo_within w X x (wr (48 + l)) (wr (48 + u))
    rw [ha, hb] at this ⊢
    exact this
  clear ha hb
  refine sx_Mo_digit ?_
  refine ⟨fun q => ?_, fun q => ?_⟩
  · have q : ((F + n : Nat) : Int) ≤ X.1 43 14 := q
    refine sx_Mo_digit ?_
    exact ⟨trivial, Or.inr ⟨fun z => by omega, rfl, rfl⟩⟩
  · have q : X.1 43 14 < ((F + n : Nat) : Int) := q
    have hpn : p < n := by omega
    have e : X.1 46 (X.1 43 14).toNat = f p := by rw [hp, Int.toNat_natCast]; exact h2 p hpn
    have A := hA trivial (X.1 46 (X.1 43 14).toNat)
    clear hA
    rw [e] at A
    rw [← e] at A
    refine ⟨(by omega), (by show _ < ((240 : Nat) : Int); omega), trivial, _, A, fun z Y hq => ?_⟩
    clear A
    obtain ⟨rfl, rfl⟩ := hq
    rw [e]
    refine sx_Mo_digit ?_
    refine ⟨fun q1 => ?_, fun q1 => ⟨trivial, Or.inr ⟨fun z => nif q1 z.2, rfl, rfl⟩⟩⟩
    have q1 := pif q1
    refine tx_Mo_digit 6 ?_
    show Go w K_Mo_digit 44 [some (.inr (.inr (7, 43))), some (.inl ((F + n : Nat) : Int)), some (.inl l), some (.inl u)] [] (up Y.1 43 14 (wr (Y.1 43 14 + 1)), Y.2) _
    have e1 : wr (Y.1 43 14 + 1) = ((F + p + 1 : Nat) : Int) := by rw [hp, wr_id (by omega) (by omega)]; omega
    rw [e1]
    clear e1
    have i1 : True → wr (up Y.1 43 14 ((F + p + 1 : Nat) : Int) 43 14 - 1) = ((F + p : Nat) : Int) := fun _ => by rw [up_row, u1_s, wr_id (by omega) (by omega)]; omega
    have i2 : True → 0 ≤ wr (up Y.1 43 14 ((F + p + 1 : Nat) : Int) 43 14 - 1) ∧ wr (up Y.1 43 14 ((F + p + 1 : Nat) : Int) 43 14 - 1) < ((240 : Nat) : Int) := fun _ => by rw [i1 trivial]; omega
    have i3 : True → wr (up Y.1 43 14 ((F + p + 1 : Nat) : Int) 46 (wr (up Y.1 43 14 ((F + p + 1 : Nat) : Int) 43 14 - 1)).toNat - 48) = f p - 48 := fun _ => by rw [i1 trivial, Int.toNat_natCast, up_ne (by omega), h2 p hpn, wr_id (by omega) (by omega)]
    refine sx_Mo_digit ?_
    exact ⟨(i2 trivial).1, (i2 trivial).2, trivial, Or.inl ⟨⟨hpn, q1⟩, SW.one 43 14 Y _, i3 trivial⟩⟩
/-- what was read stands in the row -/
def RDp (m : Nat) (M : Nat → Nat → Int) (X : XS) : Prop := X.1 43 17 = (m : Int) ∧ ∀ j, j < m → ∀ a, a < 5 → X.1 52 (5 * j + a) = M j a
theorem RDp.sw {m : Nat} {M : Nat → Nat → Int} {X Y : XS} {t : Int} (h : RDp m M X) (g : SW 43 14 X Y t) : RDp m M Y := ⟨(g.2.2.1 17 (by decide)).trans h.1, fun j hj a ha => by rw [g.1 52 (by decide)]; exact h.2 j hj a ha⟩
theorem ix5 {m k : Nat} (hm : m ≤ 8) (hk : k ≤ 4) : wr (((5 * m : Nat) : Int) + (k : Int)) = ((5 * m + k : Nat) : Int) := by
  rw [wr_id (by omega) (by omega)]; omega
theorem ix5b {m k : Nat} (hm : m < 8) (hk : k ≤ 4) : 0 ≤ wr (((5 * m : Nat) : Int) + (k : Int)) ∧ wr (((5 * m : Nat) : Int) + (k : Int)) < ((40 : Nat) : Int) := by
  rw [ix5 (by omega) hk]; omega
