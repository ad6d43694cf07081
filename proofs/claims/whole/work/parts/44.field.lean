/-! ===== field ===== -/
theorem mo_fieldF (w : WD) {X Y : XS} (h : J X) (g : RM X Y) {a b i n : Int} (hw : wz X a b i n ≠ 0) : MS w M_Mo_field [.inr (.inr (7, 43)), .inl a, .inl b, .inl i, .inl n] Y (fun z Z => SW 43 0 Y Z (wf X a b i n) ∧ z = wz X a b i n) := by
  have S0 := SW.one 43 0 Y 0
  unfold wz at hw
  unfold wf wz
  refine mk_Mo_field rfl ?_
  refine sx_Mo_field ?_
  refine ⟨trivial, _, mo_isSheet w _ a, fun z Z hq => ?_⟩
  obtain ⟨rfl, rfl⟩ := hq
  refine sx_Mo_field ?_
  refine ⟨fun q => ?_, fun q => ⟨trivial, by rw [if_neg (fun z => nif q (by omega))]; exact S0, by rw [if_neg (fun z => nif q (by omega))]⟩⟩
  have ha : 0 ≤ a ∧ a < 4 := by have := pif q; omega
  obtain ⟨k, rfl⟩ := Int.eq_ofNat_of_zero_le ha.1
  have hk : k < 4 := by omega
  rw [if_pos ha] at hw ⊢
  refine sx_Mo_field ?_
  refine ⟨trivial, _, mo_isSort w _ b, fun z Y hq => ?_⟩
  obtain ⟨rfl, rfl⟩ := hq
  refine sx_Mo_field ?_
  refine ⟨fun q => ?_, fun q => ⟨trivial, by rw [if_neg (fun z => nif q (by omega))]; exact S0, by rw [if_neg (fun z => nif q (by omega))]⟩⟩
  have hb : 0 ≤ b ∧ b < 3 := by have := pif q; omega
  rw [if_pos hb] at hw ⊢
  rw [if_pos ⟨ha, hb⟩]
  rw [Int.toNat_natCast] at hw ⊢
  have hf := fof_rng X k b i n
  have hne : fof X k b i n ≠ 0 := fun z => hw (by rw [if_pos z])
  rw [if_neg hne]
  have A := mo_against w (Y := (up Y.1 43 0 0, Y.2)) h (by show up Y.1 43 0 0 44 = _; rw [up_ne (by omega), g 44 (by omega)]) (by show up Y.1 43 0 0 45 = _; rw [up_ne (by omega), g 45 (by omega)]) hk b i n
  refine sx_Mo_field ?_
  refine ⟨trivial, _, A, fun z Z hq => ?_⟩
  obtain ⟨rfl, rfl⟩ := hq
  refine sx_Mo_field ?_
  refine ⟨fun q => absurd q hne, fun _ => ?_⟩
  refine ⟨trivial, _, mo_fails w _ (fof X k b i n), fun z Z hq => ?_⟩
  obtain ⟨rfl, rfl⟩ := hq
  rw [wr_id (by omega) (by omega)]
  refine sx_Mo_field ?_
  exact ⟨trivial, S0.tr (SW.one 43 0 _ _), rfl⟩
theorem fds_p (f : Nat → Int) (n : Nat) : (fds f n).2.1 ≤ n := by
  unfold fds
  by_cases t0 : tk f n 0 122 122
  · rw [if_pos t0]
    by_cases t1 : tk f n 1 49 52
    · rw [if_pos t1]
      by_cases t2 : tk f n 2 50 53
      · rw [if_pos t2]
        exact (rd_ri (by omega) _).2.1
      · rw [if_neg t2]; show 2 ≤ n; omega
    · rw [if_neg t1]; show 1 ≤ n; omega
  · rw [if_neg t0]; exact Nat.zero_le n
abbrev tx46 (X : XS) (k i : Nat) : Nat → Int := fun t => X.1 46 (60 * k + i + t)
def BA (Y : XS) : XS := (up (up (up (up Y.1 1 8 1) 1 9 0) 17 2 0) 23 3 0, upr (upr Y.2 1 (Y.2 0)) 0 (Y.2 1))
theorem c_beginAnew (w : WD) {X : XS} (h0 : X.2 0 ≠ 0) (h1 : X.2 1 ≠ 0) : MS w M_Tf_beginAnew [.inr (.inr (6, 1))] X (fun _ Y => Y = BA X) := by
  refine mk_Tf_beginAnew rfl ?_
  refine sx_Tf_beginAnew ?_
  exact ⟨h1, h0, Or.inr rfl, rfl⟩
theorem c_field1 (w : WD) {X : XS} (h : J X) {k i n : Nat} {b : Int} (hk : k < 4) (hb : 0 ≤ b ∧ b < 3) (hf : fof X k b (i : Int) (n : Int) = 0) : MS w M_Tf_field [.inr (.inr (6, 1)), .inl (k : Int), .inl b, .inl (i : Int), .inl (n : Int)] X (fun z Y => ∃ Y0 : XS, RFr (X.2 1) (up X.1 1 11 0, X.2) Y0 ∧ ((fok (tx46 X k i) n ∧ z = ((fds (tx46 X k i) n).2.2.1 : Int) ∧ HC (X.2 1) (fw2 (tx46 X k i)) (fh (tx46 X k i) * fw2 (tx46 X k i)) (fds (tx46 X k i) n).2.2.1 (fds (tx46 X k i) n).2.2.2 Y0 ∧ Y = BA Y0) ∨ (¬ fok (tx46 X k i) n ∧ z = -100 - ((fds (tx46 X k i) n).2.1 : Int) ∧ Y = Y0))) := by
  have hr := h.2.1
  have hb1 : X.2 1 = 27 ∨ X.2 1 = 35 := by rcases hr with h | h <;> omega
  obtain ⟨⟨l1, l2⟩, f1, ⟨f2, f3⟩, f4⟩ := fof_0 hf
  obtain ⟨a1, a2, a3, a4, a5, a6, a7, a8⟩ := (h.1 k hk).resolve_left (fun z => l1 z.2)
  have W := c_wc w h (k : Int) b (i : Int) (n : Int)
  have e1 : wf X (k : Int) b (i : Int) (n : Int) = 0 := by unfold wf; rw [if_pos ⟨by omega, hb⟩, Int.toNat_natCast]; exact hf
  have e2 : wz X (k : Int) b (i : Int) (n : Int) = 0 := by unfold wz; rw [if_pos (by omega), if_pos hb, Int.toNat_natCast, if_pos hf]
  have uu : up (up X.1 1 11 0) 1 11 0 = up X.1 1 11 0 := by
    funext j
    by_cases e : j = 1
    · subst e
      rw [up_row, up_row]
      funext q
      by_cases e : q = 11
      · subst e; rw [u1_s, u1_s]
      · rw [u1_n e, u1_n e]
    · rw [up_ne e, up_ne e]
  rw [e1, e2, uu] at W
  clear e1 e2 uu
  have r3 : up X.1 1 11 0 (3 + 2 * k) = X.1 (3 + 2 * k) := up_ne (by omega)
  have r4 : up X.1 1 11 0 (3 + 2 * k + 1) = X.1 (3 + 2 * k + 1) := up_ne (by omega)
  have A := c_rdInto w (X := (up X.1 1 11 0, X.2)) (k := k) (i := i) (n := n) (f := tx46 X k i) hk (by rw [show (up X.1 1 11 0, X.2).1 (3 + 2 * k) = X.1 (3 + 2 * k) from r3, a5]; omega) (by rw [show (up X.1 1 11 0, X.2).1 (3 + 2 * k) = X.1 (3 + 2 * k) from r3, a5]; exact a7) (fun t ht => by rw [show (up X.1 1 11 0, X.2).1 (3 + 2 * k + 1) = X.1 (3 + 2 * k + 1) from r4, a8 (i + t) (by omega)]; exact congrArg (X.1 46) (by omega)) hb1
  refine mk_Tf_field rfl ?_
  refine sx_Tf_field ?_
  refine ⟨trivial, _, W, fun z Y hq => ?_⟩
  obtain ⟨rfl, rfl⟩ := hq
  refine sx_Tf_field ?_
  refine ⟨fun _ => ?_, fun q => absurd rfl q⟩
  have hp := fds_p (tx46 X k i) n
  have b0 := h.b0
  have b1 : X.2 1 ≠ 0 := by omega
  refine sx_Tf_field ?_
  refine ⟨b1, (by omega), (by omega), trivial, _, A, fun z Y0 hq => ?_⟩
  obtain ⟨g1, g2, g3⟩ := hq
  have y0 : Y0.2 0 = X.2 0 := g1.2 0 (by decide)
  have y1 : Y0.2 1 = X.2 1 := g1.2 1 (by decide)
  rcases g3 with ⟨ok, rfl, hH⟩ | ⟨nok, rfl⟩
  · refine sx_Tf_field ?_
    refine ⟨fun _ => ?_, fun q => absurd q (by decide)⟩
    refine sx_Tf_field ?_
    refine ⟨trivial, _, c_beginAnew w (by rw [y0]; exact b0) (by rw [y1]; exact b1), fun _ Y hq => ?_⟩
    subst hq
    have c0 : (BA Y0).2 0 = X.2 1 := y1
    have e : (BA Y0).1 ((BA Y0).2 0) 9 = ((fds (tx46 X k i) n).2.2.1 : Int) := by
      rw [c0]
      show up (up (up (up Y0.1 1 8 1) 1 9 0) 17 2 0) 23 3 0 (X.2 1) 9 = _
      rw [up_ne (by omega), up_ne (by omega), up_ne (by omega), up_ne (by omega)]
      exact hH.2.2.1
    refine sx_Tf_field ?_
    exact ⟨by rw [c0]; exact b1, trivial, Y0, g1, Or.inl ⟨ok, e, hH, rfl⟩⟩
  · refine sx_Tf_field ?_
    refine ⟨fun q => absurd rfl q, fun _ => ⟨trivial, Y0, g1, Or.inr ⟨nok, ?_, rfl⟩⟩⟩
    show wr (-100 - wr (Y0.1 11 1 - (i : Int))) = _
    rw [g2, wr_id (z := ((i + (fds (tx46 X k i) n).2.1 : Nat) : Int) - (i : Int)) (by omega) (by omega), wr_id (by omega) (by omega)]
    omega
/-! the reference's field -/
def FO (h v : Nat) (s : RS) (Y Z : XS) : Prop := (∀ r, r < 43 ∨ (43 < r ∧ r < 47) ∨ 52 < r → Z.1 r = Y.1 r) ∧ Z.2 = Y.2 ∧ (Z.1 43 5 = (h : Int) ∧ Z.1 43 6 = (v : Int) ∧ Z.1 43 7 = (s.2.2.1 : Int) ∧ Z.1 43 13 = 0 ∧ Z.1 43 19 = 0 ∧ Z.1 43 29 = 0) ∧ (∀ q, q < 5 ∨ q = 22 ∨ q = 23 → Z.1 43 q = Y.1 43 q) ∧ ∀ j, j < s.2.2.1 → Z.1 47 j = s.2.2.2 j 0 ∧ Z.1 48 j = s.2.2.2 j 1 ∧ Z.1 49 j = s.2.2.2 j 2 ∧ Z.1 50 j = s.2.2.2 j 3 ∧ Z.1 51 j = s.2.2.2 j 4
def FL (h v : Nat) (s : RS) (Y : XS) (t : Nat) (Z : XS) : Prop := (∀ r, r < 43 ∨ (43 < r ∧ r < 47) ∨ 52 < r → Z.1 r = Y.1 r) ∧ Z.2 = Y.2 ∧ (Z.1 43 5 = (h : Int) ∧ Z.1 43 6 = (v : Int) ∧ Z.1 43 7 = (s.2.2.1 : Int)) ∧ (∀ q, q < 5 ∨ q = 22 ∨ q = 23 → Z.1 43 q = Y.1 43 q) ∧ (∀ j, j < s.2.2.1 → ∀ a, a < 5 → Z.1 52 (5 * j + a) = s.2.2.2 j a) ∧ ∀ j, j < t → Z.1 47 j = s.2.2.2 j 0 ∧ Z.1 48 j = s.2.2.2 j 1 ∧ Z.1 49 j = s.2.2.2 j 2 ∧ Z.1 50 j = s.2.2.2 j 3 ∧ Z.1 51 j = s.2.2.2 j 4
