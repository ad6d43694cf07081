theorem p_copy (w : WD) (a i b j n : Int) : PAIR w M_Tf_copy M_Mo_copy [.inl a, .inl i, .inl b, .inl j, .inl n] := by
  by_cases h1 : (0 ≤ a ∧ a < 4) ∧ 0 ≤ b ∧ b < 4
  · obtain ⟨k, rfl⟩ := Int.eq_ofNat_of_zero_le h1.1.1
    obtain ⟨o, rfl⟩ := Int.eq_ofNat_of_zero_le h1.2.1
    have hk : k < 4 := by omega
    have ho : o < 4 := by omega
    intro X h
    by_cases hg : (¬ X.1 44 k = -9 ∧ X.1 44 k = X.1 44 o) ∧ (((0 ≤ i ∧ i ≤ X.1 45 k) ∧ 0 ≤ n ∧ n ≤ X.1 45 k - i) ∧ (0 ≤ j ∧ j ≤ X.1 45 o) ∧ 0 ≤ n ∧ n ≤ X.1 45 o - j)
    · obtain ⟨⟨l1, l2⟩, ⟨⟨i1, i2⟩, n1, n2⟩, ⟨j1, j2⟩, -, n3⟩ := hg
      obtain ⟨i, rfl⟩ := Int.eq_ofNat_of_zero_le i1
      obtain ⟨j, rfl⟩ := Int.eq_ofNat_of_zero_le j1
      obtain ⟨n, rfl⟩ := Int.eq_ofNat_of_zero_le n1
      obtain ⟨a1, a2, a3, a4, a5, a6, a7, a8⟩ := (h.1 k hk).resolve_left (fun z => l1 z.2)
      obtain ⟨b1, b2, b3, b4, b5, b6, b7, b8⟩ := (h.1 o ho).resolve_left (fun z => l1 (l2.trans z.2))
      refine ⟨_, c_copy1 w (X := X) (k := k) (o := o) (i := i) (j := j) (n := n) hk ho a1 b1 (a4.trans (l2.trans b4.symm)) (by rw [a5]; omega) (by rw [b5]; omega) (by rw [a5]; exact a7) (by rw [b5]; exact b7), fun z Y hq => ?_⟩
      obtain ⟨rfl, rfl⟩ := hq
      have cp : ∀ r, r ≠ 3 + 2 * o + 1 → cpy (up X.1 1 11 0) (3 + 2 * k + 1) i (3 + 2 * o + 1) j n r = up X.1 1 11 0 r := fun r hr => if_neg hr
      have g : RM X (cpy (up X.1 1 11 0) (3 + 2 * k + 1) i (3 + 2 * o + 1) j n, X.2) := fun r hr => (cp r (by omega)).trans (up_ne (by omega))
      refine ⟨_, mo_copy1 w g hk ho l1 l2.symm (by omega) (by omega) a7 b7, fun z' Z hq => ?_⟩
      obtain ⟨⟨e1, e2, e3, e4, e5⟩, rfl⟩ := hq
      refine ⟨rfl, ?_⟩
      have R : ∀ r, r ≠ 43 → r ≠ 46 → r ≠ 3 + 2 * o + 1 → r ≠ 1 → Z.1 r = X.1 r := fun r p1 p2 p3 p4 => (e2 r p1 p2).trans ((cp r p3).trans (up_ne p4))
      have r1 : Z.1 1 = u1 (X.1 1) 11 0 := (e2 1 (by omega) (by omega)).trans ((cp 1 (by omega)).trans up_row)
      have r43 : ∀ s, s ≠ 0 → Z.1 43 s = X.1 43 s := fun s hs => by rw [e3 s hs, g 43 (by omega)]
      have rc : ∀ s, Z.1 (3 + 2 * o + 1) s = if j ≤ s ∧ s < j + n then X.1 (3 + 2 * k + 1) (i + (s - j)) else X.1 (3 + 2 * o + 1) s := by
        intro s
        rw [e2 (3 + 2 * o + 1) (by omega) (by omega)]
        show cpy (up X.1 1 11 0) (3 + 2 * k + 1) i (3 + 2 * o + 1) j n (3 + 2 * o + 1) s = _
        unfold cpy
        rw [if_pos rfl]
        show (if j ≤ s ∧ s < j + n then up X.1 1 11 0 (3 + 2 * k + 1) (i + (s - j)) else up X.1 1 11 0 (3 + 2 * o + 1) s) = _
        rw [up_ne (by omega), up_ne (by omega)]
      refine h.sh (fun r hr => R r (by omega) (by omega) (by omega) (by omega)) e1 (fun s hs => by rw [r1, u1_n (by omega)]) (fun s hs => r43 s (by omega)) (by rw [r1, r43 1 (by omega), u1_n (by omega)]; exact h.2.2.2.2.2.2.2.2.1) (by rw [r1, u1_s, e4]) (fun q hq => ?_)
      rw [R (3 + 2 * q) (by omega) (by omega) (show 3 + 2 * q ≠ 3 + 2 * o + 1 by omega) (by omega), R 44 (by omega) (by omega) (by omega) (by omega), R 45 (by omega) (by omega) (by omega) (by omega)]
      by_cases e : q = o
      · rw [e]
        refine Or.inr ⟨b1, b2, b3, b4, b5, b6, b7, fun s hs => ?_⟩
        rw [rc s, e5]
        by_cases d : j ≤ s ∧ s < j + n
        · rw [if_pos d, if_pos (show 60 * o + j ≤ 60 * o + s ∧ 60 * o + s < 60 * o + j + n by omega), a8 (i + (s - j)) (by omega)]
          exact congrArg (X.1 46) (show 60 * k + (i + (s - j)) = 60 * k + i + (60 * o + s - (60 * o + j)) by omega)
        · rw [if_neg d, if_neg (show ¬ (60 * o + j ≤ 60 * o + s ∧ 60 * o + s < 60 * o + j + n) by omega)]
          exact b8 s hs
      · rcases h.1 q hq with g | ⟨g1, g2, g3, g4, g5, g6, g7, g8⟩
        · exact Or.inl g
        · refine Or.inr ⟨g1, g2, g3, g4, g5, g6, g7, fun s hs => ?_⟩
          rw [R (3 + 2 * q + 1) (by omega) (by omega) (show 3 + 2 * q + 1 ≠ 3 + 2 * o + 1 by omega) (by omega), e5, if_neg (show ¬ (60 * o + j ≤ 60 * q + s ∧ 60 * q + s < 60 * o + j + n) by omega)]
          exact g8 s hs
    · have N : ¬ X.1 44 k = -9 → X.1 44 k = X.1 44 o → ¬ (((0 ≤ i ∧ i ≤ X.1 45 k) ∧ 0 ≤ n ∧ n ≤ X.1 45 k - i) ∧ (0 ≤ j ∧ j ≤ X.1 45 o) ∧ 0 ≤ n ∧ n ≤ X.1 45 o - j) := fun z e R => hg ⟨⟨z, e⟩, R⟩
      exact PAIR.flt1 h (c_copyF w h hk ho N) (fun Y g => mo_copyF w h g hk ho N)
  · refine PAIR.flt (fun _ => -1) (fun _ => 0) (fun X h => ?_) (fun X Y h g => ?_)
    · have S0 := SW.one 1 11 X 0
      refine mk_Tf_copy rfl ?_
      refine sx_Tf_copy ?_
      refine ⟨trivial, _, c_isBelow w _ a 4, fun z Y hq => ?_⟩
      obtain ⟨rfl, rfl⟩ := hq
      refine sx_Tf_copy ?_
      refine ⟨fun _ => ?_, fun q => ?_⟩
      · refine sx_Tf_copy ?_
        exact ⟨trivial, S0, rfl⟩
      refine ⟨trivial, _, c_isBelow w _ b 4, fun z Y hq => ?_⟩
      obtain ⟨rfl, rfl⟩ := hq
      refine sx_Tf_copy ?_
      exact ⟨fun q2 => absurd ⟨pif q, pif q2⟩ h1, fun _ => ⟨trivial, S0, rfl⟩⟩
    · have S0 := SW.one 43 0 Y 0
      refine mk_Mo_copy rfl ?_
      refine sx_Mo_copy ?_
      refine ⟨trivial, _, mo_isSheet w _ a, fun z Z hq => ?_⟩
      obtain ⟨rfl, rfl⟩ := hq
      refine sx_Mo_copy ?_
      refine ⟨fun _ => ?_, fun q => ?_⟩
      · refine sx_Mo_copy ?_
        exact ⟨trivial, S0, rfl⟩
      have q' := pif q
      refine ⟨trivial, _, mo_isSheet w _ b, fun z Y hq => ?_⟩
      obtain ⟨rfl, rfl⟩ := hq
      refine sx_Mo_copy ?_
      refine ⟨fun q2 => ?_, fun _ => ⟨trivial, S0, rfl⟩⟩
      have q2' := pif q2
      exact absurd (show (0 ≤ a ∧ a < 4) ∧ 0 ≤ b ∧ b < 4 by omega) h1
