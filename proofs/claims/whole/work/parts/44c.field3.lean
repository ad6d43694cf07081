theorem mo_field5 (w : WD) {X Y : XS} (h : J X) (r44 : Y.1 44 = X.1 44) (r45 : Y.1 45 = X.1 45) (r46 : Y.1 46 = X.1 46) {k i n : Nat} {b : Int} (hk : k < 4) (hb : 0 ≤ b ∧ b < 3) (hf : fof X k b (i : Int) (n : Int) = 0) : Go w K_Mo_field 5 [some (.inr (.inr (7, 43))), some (.inl (k : Int)), some (.inl b), some (.inl (i : Int)), some (.inl (n : Int)), none, none, none] [] Y (fun z Z => (fok (tx46 X k i) n ∧ z = ((fds (tx46 X k i) n).2.2.1 : Int) ∧ FO (fh (tx46 X k i)) (fw2 (tx46 X k i)) (fds (tx46 X k i) n) Y Z) ∨ (¬ fok (tx46 X k i) n ∧ z = -100 - ((fds (tx46 X k i) n).2.1 : Int) ∧ MFF Y Z)) := by
  obtain ⟨⟨l1, l2⟩, f1, ⟨f2, f3⟩, f4⟩ := fof_0 hf
  obtain ⟨a1, a2, a3, a4, a5, a6, a7, a8⟩ := (h.1 k hk).resolve_left (fun z => l1 z.2)
  have hp := fds_p (tx46 X k i) n
  refine sx_Mo_field ?_
  refine ⟨trivial, _, mo_isSheet w _ (k : Int), fun z Z hq => ?_⟩
  obtain ⟨rfl, rfl⟩ := hq
  refine sx_Mo_field ?_
  refine ⟨fun _ => ?_, fun q => absurd (show 0 ≤ (k : Int) ∧ (k : Int) ≤ 3 by omega) (nif q)⟩
  refine sx_Mo_field ?_
  refine ⟨trivial, _, mo_isSort w _ b, fun z Z1 hq => ?_⟩
  obtain ⟨rfl, rfl⟩ := hq
  refine sx_Mo_field ?_
  refine ⟨fun _ => ?_, fun q => absurd (show 0 ≤ b ∧ b ≤ 2 by omega) (nif q)⟩
  refine sx_Mo_field ?_
  refine ⟨trivial, _, mo_against w h r44 r45 hk b (i : Int) (n : Int), fun z Z hq => ?_⟩
  obtain ⟨rfl, rfl⟩ := hq
  rw [hf]
  refine sx_Mo_field ?_
  refine ⟨fun _ => ?_, fun q => absurd rfl q⟩
  refine tx_Mo_field 9 ?_
  show Go w K_Mo_field 61 [some (.inr (.inr (7, 43))), some (.inl (k : Int)), some (.inl b), some (.inl (i : Int)), some (.inl (n : Int)), some (.inl 0), some (.inl (wr (wr (60 * (k : Int)) + (i : Int)))), none] [] (up Z.1 43 14 (wr (wr (60 * (k : Int)) + (i : Int))), Z.2) _
  rw [ix61 hk (show i ≤ 60 by omega)]
  have S := SW.one 43 14 Z ((60 * k + i : Nat) : Int)
  generalize ((up Z.1 43 14 ((60 * k + i : Nat) : Int), Z.2) : XS) = U at S ⊢
  have ew : True → wr (((60 * k + i : Nat) : Int) + (n : Int)) = ((60 * k + i + n : Nat) : Int) := fun _ => by rw [wr_id (by omega) (by omega)]; omega
  have hR : RCm (60 * k + i) n (tx46 X k i) U := ⟨by omega, fun t ht => by rw [S.1 46 (by omega), r46]⟩
  have A := mo_rdField w hR S.2.2.2
  rw [← ew trivial] at A
  clear ew
  refine sx_Mo_field ?_
  refine ⟨trivial, _, A, fun z V hq => ?_⟩
  clear A
  obtain ⟨g1, g2, g3⟩ := hq
  have M1 : MFF Z V := (S.mff (by decide)).tr g1
  rcases g3 with ⟨ok, rfl, hF⟩ | ⟨nok, rfl⟩
  case inr =>
    refine sx_Mo_field ?_
    refine ⟨fun q => absurd rfl q, fun _ => ⟨trivial, Or.inr ⟨nok, ?_, M1⟩⟩⟩
    show wr (-100 - wr (V.1 43 14 - ((60 * k + i : Nat) : Int))) = _
    rw [g2, wr_id (z := ((60 * k + i + (fds (tx46 X k i) n).2.1 : Nat) : Int) - ((60 * k + i : Nat) : Int)) (by omega) (by omega), wr_id (by omega) (by omega)]
    omega
  obtain ⟨-, d15, d16, -, d17, d52⟩ := hF
  have c8 : (fds (tx46 X k i) n).2.2.1 ≤ 8 := by
    have : (fds (tx46 X k i) n).2.2.1 ≤ 8 := by
      unfold fds
      by_cases t0 : tk (tx46 X k i) n 0 122 122
      · rw [if_pos t0]
        by_cases t1 : tk (tx46 X k i) n 1 49 52
        · rw [if_pos t1]
          by_cases t2 : tk (tx46 X k i) n 2 50 53
          · rw [if_pos t2]
            exact (rd_ri (by omega) _).2.2.1
          · rw [if_neg t2]; exact Nat.zero_le 8
        · rw [if_neg t1]; exact Nat.zero_le 8
      · rw [if_neg t0]; exact Nat.zero_le 8
    exact this
  refine sx_Mo_field ?_
  refine ⟨fun _ => ?_, fun q => absurd q (by decide)⟩
  refine tx_Mo_field 14 ?_
  show Go w K_Mo_field 111 [some (.inr (.inr (7, 43))), some (.inl (k : Int)), some (.inl b), some (.inl (i : Int)), some (.inl (n : Int)), some (.inl 0), some (.inl ((60 * k + i : Nat) : Int)), some (.inl 0)] [] (up (up (up V.1 43 5 (V.1 43 15)) 43 6 (V.1 43 16)) 43 7 (V.1 43 17), V.2) _
  have I0 : FL (fh (tx46 X k i)) (fw2 (tx46 X k i)) (fds (tx46 X k i) n) Z 0 (up (up (up V.1 43 5 (V.1 43 15)) 43 6 (V.1 43 16)) 43 7 (V.1 43 17), V.2) := by
    have R : ∀ r, r ≠ 43 → up (up (up V.1 43 5 (V.1 43 15)) 43 6 (V.1 43 16)) 43 7 (V.1 43 17) r = V.1 r := fun r hr => by rw [up_ne hr, up_ne hr, up_ne hr]
    refine ⟨fun r hr => (R r (by omega)).trans (M1.1 r (by omega) (by omega)), M1.2.1, ⟨?_, ?_, ?_⟩, fun q hq => ?_, fun j hj a ha => ?_, fun j hj => absurd hj (Nat.not_lt_zero j)⟩
    · show up (up (up V.1 43 5 (V.1 43 15)) 43 6 (V.1 43 16)) 43 7 (V.1 43 17) 43 5 = _
      rw [up_row, u1_n (by omega), up_row, u1_n (by omega), up_row, u1_s]; exact d15
    · show up (up (up V.1 43 5 (V.1 43 15)) 43 6 (V.1 43 16)) 43 7 (V.1 43 17) 43 6 = _
      rw [up_row, u1_n (by omega), up_row, u1_s]; exact d16
    · show up (up (up V.1 43 5 (V.1 43 15)) 43 6 (V.1 43 16)) 43 7 (V.1 43 17) 43 7 = _
      rw [up_row, u1_s]; exact d17
    · show up (up (up V.1 43 5 (V.1 43 15)) 43 6 (V.1 43 16)) 43 7 (V.1 43 17) 43 q = _
      rw [up_row, u1_n (by omega), up_row, u1_n (by omega), up_row, u1_n (by omega)]; exact M1.2.2 q (by omega)
    · show up (up (up V.1 43 5 (V.1 43 15)) 43 6 (V.1 43 16)) 43 7 (V.1 43 17) 52 (5 * j + a) = _
      rw [R 52 (by omega)]; exact d52 j hj a ha
  generalize ((up (up (up V.1 43 5 (V.1 43 15)) 43 6 (V.1 43 16)) 43 7 (V.1 43 17), V.2) : XS) = V1 at I0 ⊢
  have L : ∀ j, j ≤ (fds (tx46 X k i) n).2.2.1 → ∀ (c : Int) (W : XS), c = (j : Int) → FL (fh (tx46 X k i)) (fw2 (tx46 X k i)) (fds (tx46 X k i) n) Z j W → Go w K_Mo_field 111 [some (.inr (.inr (7, 43))), some (.inl (k : Int)), some (.inl b), some (.inl (i : Int)), some (.inl (n : Int)), some (.inl 0), some (.inl ((60 * k + i : Nat) : Int)), some (.inl c)] [] W (fun z W => (fok (tx46 X k i) n ∧ z = ((fds (tx46 X k i) n).2.2.1 : Int) ∧ FO (fh (tx46 X k i)) (fw2 (tx46 X k i)) (fds (tx46 X k i) n) Z W) ∨ (¬ fok (tx46 X k i) n ∧ z = -100 - ((fds (tx46 X k i) n).2.1 : Int) ∧ MFF Z W)) := by
    refine lp ?_
    intro j hj ih c W hc hI
    subst hc
    have w7 := hI.2.2.1.2.2
    refine tx_Mo_field 4 ?_
    refine ⟨fun q => ?_, fun q => ?_⟩
    · have q : W.1 43 7 ≤ (j : Int) := q
      have e : j = (fds (tx46 X k i) n).2.2.1 := by omega
      obtain ⟨b1, b2, b3, b4, b5, b6⟩ := hI
      rw [e] at b6
      have R : ∀ r, r ≠ 43 → up (up (up W.1 43 13 0) 43 19 0) 43 29 0 r = W.1 r := fun r hr => by rw [up_ne hr, up_ne hr, up_ne hr]
      have R43 : ∀ s, s ≠ 13 → s ≠ 19 → s ≠ 29 → up (up (up W.1 43 13 0) 43 19 0) 43 29 0 43 s = W.1 43 s := fun s p1 p2 p3 => by rw [up_row, u1_n p3, up_row, u1_n p2, up_row, u1_n p1]
      refine sx_Mo_field ?_
      refine ⟨trivial, Or.inl ⟨ok, (R43 7 (by omega) (by omega) (by omega)).trans b3.2.2, fun r hr => (R r (by omega)).trans (b1 r hr), b2, ⟨(R43 5 (by omega) (by omega) (by omega)).trans b3.1, (R43 6 (by omega) (by omega) (by omega)).trans b3.2.1, (R43 7 (by omega) (by omega) (by omega)).trans b3.2.2, ?_, ?_, ?_⟩, fun q hq => (R43 q (by omega) (by omega) (by omega)).trans (b4 q hq), fun j hj => ?_⟩⟩
      · show up (up (up W.1 43 13 0) 43 19 0) 43 29 0 43 13 = _
        rw [up_row, u1_n (by omega), up_row, u1_n (by omega), up_row, u1_s]
      · show up (up (up W.1 43 13 0) 43 19 0) 43 29 0 43 19 = _
        rw [up_row, u1_n (by omega), up_row, u1_s]
      · show up (up (up W.1 43 13 0) 43 19 0) 43 29 0 43 29 = _
        rw [up_row, u1_s]
      · show up (up (up W.1 43 13 0) 43 19 0) 43 29 0 47 j = _ ∧ up (up (up W.1 43 13 0) 43 19 0) 43 29 0 48 j = _ ∧ up (up (up W.1 43 13 0) 43 19 0) 43 29 0 49 j = _ ∧ up (up (up W.1 43 13 0) 43 19 0) 43 29 0 50 j = _ ∧ up (up (up W.1 43 13 0) 43 19 0) 43 29 0 51 j = _
        rw [R 47 (by omega), R 48 (by omega), R 49 (by omega), R 50 (by omega), R 51 (by omega)]
        exact b6 j hj
    · have q : (j : Int) < W.1 43 7 := q
      have hjn : j < (fds (tx46 X k i) n).2.2.1 := by omega
      refine mo_copyMan w (show j < 8 by omega) ?_
      refine sx_Mo_field ?_
      exact ih hjn _ _ (w1 rfl (by omega)) (hI.step hjn)
  exact L 0 (Nat.zero_le _) 0 V1 rfl I0
