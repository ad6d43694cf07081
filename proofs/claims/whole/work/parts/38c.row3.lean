/-! the reference's row -/
def LR (Y Z : XS) : Prop := (∀ i, i < 43 ∨ (43 < i ∧ i < 53) ∨ (59 < i ∧ i < 63) → Z.1 i = Y.1 i) ∧ Z.2 = Y.2 ∧ ∀ k, k ≠ 19 → Z.1 43 k = Y.1 43 k
theorem LR.up1 {Y Z : XS} (h : LR Y Z) {i k : Nat} {z : Int} (hi : i = 53 ∨ i = 54 ∨ i = 63 ∨ i = 64) : LR Y (up Z.1 i k z, Z.2) := by
  refine ⟨fun j hj => (up_ne (by omega)).trans (h.1 j hj), h.2.1, fun q hq => ?_⟩
  show up Z.1 i k z 43 q = _
  rw [up_ne (by omega)]
  exact h.2.2 q hq
theorem LR.up2 {Y Z : XS} (h : LR Y Z) {z : Int} : LR Y (up Z.1 43 19 z, Z.2) := by
  refine ⟨fun j hj => (up_ne (by omega)).trans (h.1 j hj), h.2.1, fun q hq => ?_⟩
  show up Z.1 43 19 z 43 q = _
  rw [up_row, u1_n hq]
  exact h.2.2 q hq
theorem LR.mf {Y Z V : XS} (h : LR Y Z) (g : MF Z V) : LR Y V := ⟨fun j hj => (g.2 j (by omega)).trans (h.1 j hj), g.1.trans h.2.1, fun q hq => by rw [g.2 43 (by omega)]; exact h.2.2 q hq⟩
theorem LR.hm {Y Z : XS} (h : J Y) (g : LR Y Z) : HM (DM Y) Z := by
  obtain ⟨h1, h2, h3, h4, h5⟩ := h.hm
  unfold HM
  rw [g.2.2 6 (by omega), g.2.2 7 (by omega), g.1 47 (by omega), g.1 48 (by omega), g.1 49 (by omega), g.1 50 (by omega), g.1 51 (by omega)]
  exact ⟨h1, h2, h3, h4, h5⟩
def KP (Y Z : XS) (n : Nat) : Prop := ∀ t, t < n → Z.1 63 t = Y.1 53 t ∧ Z.1 64 t = Y.1 54 t
/-- the first n stones -/
def FN (f g : Nat → Int) (Z : XS) (n : Nat) : Prop := Z.1 43 19 = (n : Int) ∧ ∀ t, t < n → Z.1 53 t = f t ∧ Z.1 54 t = g t
theorem FN.lay {f g : Nat → Int} {Z : XS} {n : Nat} (h : FN f g Z n) : FN f g (up (up (up Z.1 53 n (f n)) 54 n (g n)) 43 19 ((n + 1 : Nat) : Int), Z.2) (n + 1) := by
  refine ⟨?_, fun t ht => ?_⟩
  · show up (up (up Z.1 53 n (f n)) 54 n (g n)) 43 19 ((n + 1 : Nat) : Int) 43 19 = _
    rw [up_row, u1_s]
  · show up (up (up Z.1 53 n (f n)) 54 n (g n)) 43 19 ((n + 1 : Nat) : Int) 53 t = f t ∧ up (up (up Z.1 53 n (f n)) 54 n (g n)) 43 19 ((n + 1 : Nat) : Int) 54 t = g t
    rw [up_ne (by omega), up_ne (by omega), up_row, up_ne (by omega), up_row]
    by_cases e : t = n
    · subst e; rw [u1_s, u1_s]; exact ⟨rfl, rfl⟩
    · rw [u1_n e, u1_n e, up_ne (by omega)]; exact h.2 t (by omega)
theorem KP.lay {Y Z : XS} {m n : Nat} {a b c : Int} (h : KP Y Z m) : KP Y (up (up (up Z.1 53 n a) 54 n b) 43 19 c, Z.2) m := by
  intro t ht
  show up (up (up Z.1 53 n a) 54 n b) 43 19 c 63 t = _ ∧ up (up (up Z.1 53 n a) 54 n b) 43 19 c 64 t = _
  rw [up_ne (by omega), up_ne (by omega), up_ne (by omega), up_ne (by omega), up_ne (by omega), up_ne (by omega)]
  exact h t ht
theorem LR.lay {Y Z : XS} {n : Nat} {a b c : Int} (h : LR Y Z) : LR Y (up (up (up Z.1 53 n a) 54 n b) 43 19 c, Z.2) := ((h.up1 (i := 53) (k := n) (z := a) (by omega)).up1 (i := 54) (k := n) (z := b) (by omega)).up2 (z := c)
theorem mo_lbr (w : WD) {Y : XS} (h : J Y) {k i n : Nat} (hk : k < 4) (hi : i + n ≤ 60) (hn30 : n ≤ 30) (hA : ∀ t, t < n → 0 ≤ Y.1 46 (60 * k + i + t) ∧ Y.1 46 (60 * k + i + t) < Y.1 43 7) : MS w M_Mo_leftByRow [.inr (.inr (7, 43)), .inl ((60 * k + i : Nat) : Int), .inl (n : Int)] Y (fun z Z => ME Y Z ∧ z = ((bsN (RT Y (rwl Y k i n)).1 (nM Y) : Nat) : Int)) := by
  have hn := h.n
  have hns := h.ns
  refine mk_Mo_leftByRow rfl ?_
  refine tx_Mo_leftByRow 5 ?_
  have L3 : ∀ (v : Int) (z : Int), v = z → ∀ j, j ≤ nS Y → ∀ (c : Int) (Z : XS), c = (j : Int) → LR Y Z → KP Y Z (nS Y) → FN (Y.1 53) (Y.1 54) Z j → Go w K_Mo_leftByRow 97 [some (.inr (.inr (7, 43))), some (.inl ((60 * k + i : Nat) : Int)), some (.inl (n : Int)), some (.inl (Y.1 43 19)), some (.inl v), some (.inl c)] [] Z (fun u Z => ME Y Z ∧ u = z) := by
    intro v z hv
    subst hv
    refine lp ?_
    intro j hj ih c Z hc hL hK hF
    subst hc
    refine sx_Mo_leftByRow ?_
    refine ⟨fun p => ?_, fun p => ?_⟩
    · have p : Y.1 43 19 ≤ (j : Int) := p
      have e : j = nS Y := by omega
      subst e
      refine sx_Mo_leftByRow ?_
      refine ⟨trivial, ⟨fun r hr => hL.1 r (by omega), hL.2.1, fun q hq => ?_, hF.2⟩, rfl⟩
      by_cases e : q = 19
      · rw [e, hF.1]; exact hns.1.symm
      · exact hL.2.2 q e
    · have p : (j : Int) < Y.1 43 19 := p
      have hjn : j < nS Y := by omega
      obtain ⟨e1, e2⟩ := hK j hjn
      have A := mo_lay w Z (Z.1 63 j) (Z.1 64 j) (n := j) hF.1 (by omega)
      refine ⟨(by omega), (by show _ < ((6 : Nat) : Int); omega), (by omega), (by show _ < ((6 : Nat) : Int); omega), trivial, _, A, fun _ Z1 hq => ?_⟩
      subst hq
      refine sx_Mo_leftByRow ?_
      refine ih hjn _ _ (w1 rfl (by omega)) hL.lay hK.lay ?_
      rw [e1, e2]
      exact hF.lay
  have L2 : ∀ j, j ≤ n → ∀ (c : Int) (Z : XS), c = (j : Int) → LR Y Z → KP Y Z (nS Y) → FN (fun t => Y.1 46 (60 * k + i + t)) (fun t => (t : Int)) Z j → Go w K_Mo_leftByRow 56 [some (.inr (.inr (7, 43))), some (.inl ((60 * k + i : Nat) : Int)), some (.inl (n : Int)), some (.inl (Y.1 43 19)), some (.inl c), none] [] Z (fun z Z => ME Y Z ∧ z = ((bsN (RT Y (rwl Y k i n)).1 (nM Y) : Nat) : Int)) := by
    refine lp ?_
    intro j hj ih c Z hc hL hK hF
    subst hc
    refine sx_Mo_leftByRow ?_
    refine ⟨fun p => ?_, fun p => ?_⟩
    · have p : (n : Int) ≤ (j : Int) := p
      have e : j = n := by omega
      subst e
      have hS : SMo (DM Y) Z (rwl Y k i j) := by
        refine ⟨j, 0, (by omega), by decide, hF.1, (hL.2.2 22 (by omega)).trans h.2.2.2.2.2.2.1, fun t ht => ?_, ?_⟩
        · rw [(hF.2 t ht).1]
          have := hA t ht
          exact ⟨this.1, by show _ < (nM Y : Int); rw [← hn.1]; exact this.2⟩
        · unfold rwl
          exact stl_congr (fun t ht => ⟨(hF.2 t ht).1.symm, (hF.2 t ht).2.symm⟩)
      have A := mo_leftNow w (hL.hm h) hS (law := Y.1 43 13) (ab := -9) (hL.2.2 13 (by omega)) ((hL.2.2 23 (by omega)).trans h.2.2.2.2.2.2.2.1)
      refine sx_Mo_leftByRow ?_
      refine ⟨trivial, _, A, fun z Z1 hq => ?_⟩
      obtain ⟨g1, -, rfl⟩ := hq
      refine tx_Mo_leftByRow 6 ?_
      refine L3 _ _ rfl 0 (Nat.zero_le _) 0 _ rfl (hL.mf g1).up2 (fun t ht => ?_) ⟨?_, fun t ht => absurd ht (Nat.not_lt_zero t)⟩
      · show up Z1.1 43 19 0 63 t = _ ∧ up Z1.1 43 19 0 64 t = _
        rw [up_ne (by omega), up_ne (by omega), g1.2 63 (by omega), g1.2 64 (by omega)]
        exact hK t ht
      · show up Z1.1 43 19 0 43 19 = _
        rw [up_row, u1_s]; rfl
    · have p : (j : Int) < (n : Int) := p
      have hjn : j < n := by omega
      have ew : True → wr (((60 * k + i : Nat) : Int) + (j : Int)) = ((60 * k + i + j : Nat) : Int) := fun _ => by rw [wr_id (by omega) (by omega)]; omega
      have b1 : True → 0 ≤ wr (((60 * k + i : Nat) : Int) + (j : Int)) ∧ wr (((60 * k + i : Nat) : Int) + (j : Int)) < ((240 : Nat) : Int) := fun _ => by rw [wr_id (by omega) (by omega)]; omega
      have ev : True → Z.1 46 (wr (((60 * k + i : Nat) : Int) + (j : Int))).toNat = Y.1 46 (60 * k + i + j) := fun _ => by rw [ew trivial, Int.toNat_natCast, hL.1 46 (by omega)]
      have A := mo_lay w Z (Y.1 46 (60 * k + i + j)) (j : Int) (n := j) hF.1 (by omega)
      rw [← ev trivial] at A
      refine ⟨(b1 trivial).1, (b1 trivial).2, trivial, _, A, fun _ Z1 hq => ?_⟩
      rw [ev trivial] at hq
      clear ew b1 ev A
      subst hq
      refine sx_Mo_leftByRow ?_
      exact ih hjn _ _ (w1 rfl (by omega)) hL.lay hK.lay hF.lay
  have L1 : ∀ j, j ≤ nS Y → ∀ (c : Int) (Z : XS), c = (j : Int) → (∀ r, r ≠ 63 → r ≠ 64 → Z.1 r = Y.1 r) → Z.2 = Y.2 → KP Y Z j → Go w K_Mo_leftByRow 8 [some (.inr (.inr (7, 43))), some (.inl ((60 * k + i : Nat) : Int)), some (.inl (n : Int)), some (.inl (Y.1 43 19)), some (.inl c), none] [] Z (fun z Z => ME Y Z ∧ z = ((bsN (RT Y (rwl Y k i n)).1 (nM Y) : Nat) : Int)) := by
    refine lp ?_
    intro j hj ih c Z hc hR h2 hK
    subst hc
    refine sx_Mo_leftByRow ?_
    refine ⟨fun p => ?_, fun p => ?_⟩
    · have p : Y.1 43 19 ≤ (j : Int) := p
      have e : j = nS Y := by omega
      subst e
      refine tx_Mo_leftByRow 5 ?_
      refine L2 0 (Nat.zero_le _) 0 _ rfl ?_ (fun t ht => ?_) ⟨?_, fun t ht => absurd ht (Nat.not_lt_zero t)⟩
      · refine LR.up2 ⟨fun r hr => hR r (by omega) (by omega), h2, fun q _ => by rw [hR 43 (by omega) (by omega)]⟩
      · show up Z.1 43 19 0 63 t = _ ∧ up Z.1 43 19 0 64 t = _
        rw [up_ne (by omega), up_ne (by omega)]
        exact hK t ht
      · show up Z.1 43 19 0 43 19 = _
        rw [up_row, u1_s]; rfl
    · have p : (j : Int) < Y.1 43 19 := p
      have hjn : j < nS Y := by omega
      refine ⟨(by omega), (by show _ < ((40 : Nat) : Int); omega), (by omega), (by show _ < ((6 : Nat) : Int); omega), (by omega), (by show _ < ((40 : Nat) : Int); omega), (by omega), (by show _ < ((6 : Nat) : Int); omega), ?_⟩
      refine ih hjn _ _ (w1 rfl (by omega)) (fun r p1 p2 => ?_) h2 (fun t ht => ?_)
      · show up (up Z.1 63 j (Z.1 53 j)) 64 j (up Z.1 63 j (Z.1 53 j) 54 j) r = _
        rw [up_ne p2, up_ne p1]; exact hR r p1 p2
      · show up (up Z.1 63 j (Z.1 53 j)) 64 j (up Z.1 63 j (Z.1 53 j) 54 j) 63 t = _ ∧ up (up Z.1 63 j (Z.1 53 j)) 64 j (up Z.1 63 j (Z.1 53 j) 54 j) 64 t = _
        rw [up_ne (by omega), up_row, up_row, up_ne (by omega), up_ne (by omega), hR 53 (by omega) (by omega), hR 54 (by omega) (by omega)]
        by_cases e : t = j
        · subst e; rw [u1_s, u1_s]; exact ⟨rfl, rfl⟩
        · rw [u1_n e, u1_n e]; exact hK t (by omega)
  exact L1 0 (Nat.zero_le _) 0 Y rfl (fun _ _ _ => rfl) rfl (fun t ht => absurd ht (Nat.not_lt_zero t))
