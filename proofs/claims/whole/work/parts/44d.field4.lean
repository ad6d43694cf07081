theorem J.spare {X Y : XS} (h : J X) (g : RFr (X.2 1) X Y) : J Y := by
  have hr := h.2.1
  obtain ⟨h1, h2, h3, h4, h5, h6, h7⟩ := h
  obtain ⟨g1, g2⟩ := g
  have y0 := g2 0 (by decide)
  have y1 := g2 1 (by decide)
  have R : ∀ r, r < 11 ∨ (16 < r ∧ r < 27) ∨ 42 < r → Y.1 r = X.1 r := fun r p => g1 r (by omega) (by rcases hr with h | h <;> omega)
  have RH : ∀ r, X.2 0 ≤ r → r ≤ X.2 0 + 7 → Y.1 r = X.1 r := fun r p q => g1 r (by rcases hr with h | h <;> omega) (by rcases hr with h | h <;> omega)
  refine ⟨JS.cg h1 (fun i hi => R i (by omega)), by unfold JR; rw [y0, y1]; exact h2, ?_, JL.cg h4 (by rw [R 1 (by omega)]) (by rw [R 43 (by omega)]), JT.cg h5 (fun i hi => R i (by omega)) (by rw [R 43 (by omega)]) (by rw [R 43 (by omega)]), JD.cg h6 (fun i hi => R i (by omega)) (by rw [R 43 (by omega)]) (by rw [R 43 (by omega)]), ?_⟩
  · unfold JF nM
    rw [y0, R 1 (by omega), R 43 (by omega), R 47 (by omega), R 48 (by omega), R 49 (by omega), R 50 (by omega), R 51 (by omega), RH (X.2 0) (by omega) (by omega), RH (X.2 0 + 1) (by omega) (by omega), RH (X.2 0 + 2) (by omega) (by omega), RH (X.2 0 + 3) (by omega) (by omega), RH (X.2 0 + 4) (by omega) (by omega), RH (X.2 0 + 5) (by omega) (by omega), RH (X.2 0 + 6) (by omega) (by omega), RH (X.2 0 + 7) (by omega) (by omega)]
    exact h3
  · unfold JX; rw [R 1 (by omega), R 43 (by omega)]; exact h7
/-- a field that was taken -/
theorem J.sown {X Y0 Z : XS} (h : J X) {k i n : Nat} (ok : fok (tx46 X k i) n) (g : RFr (X.2 1) (up X.1 1 11 0, X.2) Y0) (hH : HC (X.2 1) (fw2 (tx46 X k i)) (fh (tx46 X k i) * fw2 (tx46 X k i)) (fds (tx46 X k i) n).2.2.1 (fds (tx46 X k i) n).2.2.2 Y0) (hF : FO (fh (tx46 X k i)) (fw2 (tx46 X k i)) (fds (tx46 X k i) n) (up (BA Y0).1 43 0 0, (BA Y0).2) Z) : J Z := by
  have hr := h.2.1
  generalize hfe : tx46 X k i = f at *
  have OK : ((1 ≤ fh f ∧ fh f ≤ 4) ∧ (2 ≤ fw2 f ∧ fw2 f ≤ 5)) ∧ RI n (fh f * fw2 f) (fds f n) := by
    have ok := ok.1
    unfold fds at ok ⊢
    by_cases t0 : tk f n 0 122 122
    · rw [if_pos t0] at ok ⊢
      by_cases t1 : tk f n 1 49 52
      · rw [if_pos t1] at ok ⊢
        by_cases t2 : tk f n 2 50 53
        · rw [if_pos t2] at ok ⊢
          obtain ⟨-, r1, r2, -⟩ := fhw t1 t2
          exact ⟨⟨r1, r2⟩, rd_ri (by omega) _⟩
        · rw [if_neg t2] at ok; exact absurd ok (by decide)
      · rw [if_neg t1] at ok; exact absurd ok (by decide)
    · rw [if_neg t0] at ok; exact absurd ok (by decide)
  obtain ⟨⟨r1, r2⟩, -, -, c8, ri⟩ := OK
  clear ok
  generalize fds f n = s at hH hF c8 ri
  generalize hv : fw2 f = v at hH hF r2 ri
  generalize hh : fh f = u at hH hF r1 ri
  obtain ⟨b1, b2, b3, b4, b5⟩ := hF
  obtain ⟨e5, e6, e7, e13, e19, e29⟩ := b3
  obtain ⟨g1, g2⟩ := g
  have bb : X.2 1 = 27 ∨ X.2 1 = 35 := by rcases hr with h | h <;> omega
  -- rows behind all
  have RB : ∀ r, r ≠ 1 → r ≠ 17 → r ≠ 23 → r ≠ 43 → up (BA Y0).1 43 0 0 r = Y0.1 r := fun r p1 p2 p3 p4 => by
    rw [up_ne p4]
    show up (up (up (up Y0.1 1 8 1) 1 9 0) 17 2 0) 23 3 0 r = _
    rw [up_ne p3, up_ne p2, up_ne p1, up_ne p1]
  have RX : ∀ r, r ≠ 1 → r ≠ 17 → r ≠ 23 → r ≠ 43 → r ≠ 11 → r < X.2 1 ∨ X.2 1 + 7 < r → up (BA Y0).1 43 0 0 r = X.1 r := fun r p1 p2 p3 p4 p5 p6 => by
    rw [RB r p1 p2 p3 p4, g1 r p5 p6]
    exact up_ne p1
  have R43 : ∀ q, q ≠ 0 → up (BA Y0).1 43 0 0 43 q = X.1 43 q := fun q hq => by
    rw [up_row, u1_n hq]
    show up (up (up (up Y0.1 1 8 1) 1 9 0) 17 2 0) 23 3 0 43 q = _
    rw [up_ne (by omega), up_ne (by omega), up_ne (by omega), up_ne (by omega), g1 43 (by omega) (by omega)]
    show up X.1 1 11 0 43 q = _
    rw [up_ne (by omega)]
  have Z1 : ∀ q, Z.1 1 q = if q = 8 then 1 else if q = 9 then 0 else if q = 11 then 0 else X.1 1 q := fun q => by
    rw [b1 1 (by omega)]
    show up (up (up (up (up Y0.1 1 8 1) 1 9 0) 17 2 0) 23 3 0) 43 0 0 1 q = _
    rw [up_ne (by omega), up_ne (by omega), up_ne (by omega), up_row, up_row, g1 1 (by omega) (by omega)]
    show u1 (u1 (up X.1 1 11 0 1) 8 1) 9 0 q = _
    rw [up_row]
    by_cases q9 : q = 9
    · subst q9; rw [u1_s]; rfl
    · rw [u1_n q9]
      by_cases q8 : q = 8
      · subst q8; rw [u1_s, if_pos rfl]
      · rw [u1_n q8, if_neg q8, if_neg q9]
        by_cases q11 : q = 11
        · subst q11; rw [u1_s, if_pos rfl]
        · rw [u1_n q11, if_neg q11]
  have z0 : Z.2 0 = X.2 1 := by rw [b2]; exact g2 1 (by decide)
  have z1 : Z.2 1 = X.2 0 := by rw [b2]; exact g2 0 (by decide)
  have ZH : ∀ r, X.2 1 ≤ r → r ≤ X.2 1 + 7 → Z.1 r = Y0.1 r := fun r p q => by
    rw [b1 r (by omega)]
    exact RB r (by omega) (by omega) (by omega) (by omega)
  have Z17 : Z.1 17 2 = 0 := by
    rw [b1 17 (by omega)]
    show up (up (up (up (up Y0.1 1 8 1) 1 9 0) 17 2 0) 23 3 0) 43 0 0 17 2 = _
    rw [up_ne (by omega), up_ne (by omega), up_row, u1_s]
  have Z23 : Z.1 23 3 = 0 := by
    rw [b1 23 (by omega)]
    show up (up (up (up (up Y0.1 1 8 1) 1 9 0) 17 2 0) 23 3 0) 43 0 0 23 3 = _
    rw [up_ne (by omega), up_row, u1_s]
  have nm : nM Z = s.2.2.1 := by unfold nM; rw [e7]; exact Int.toNat_natCast _
  obtain ⟨q1, q2, q3, q4, q5, q6⟩ := hH
  refine ⟨JS.cg h.1 (fun r hr => (b1 r (by omega)).trans (RX r (by omega) (by omega) (by omega) (by omega) (by omega) (by omega))), by unfold JR; rw [z0, z1]; rcases hr with h | h <;> omega, ?_, ⟨by rw [Z1, e13]; rfl, by rw [e13]; exact Or.inl rfl⟩, ⟨by rw [e19]; omega, by rw [e19, Z17], fun t ht => ?_⟩, ⟨by rw [e29]; omega, by rw [e29, Z23], fun t ht => ?_⟩, ?_⟩
  · have uv : (u : Int) * (v : Int) = ((u * v : Nat) : Int) := (Int.natCast_mul u v).symm
    unfold JF
    rw [z0, nm, e5, e6, e7, ZH (X.2 1) (by omega) (by omega), ZH (X.2 1 + 1) (by omega) (by omega), ZH (X.2 1 + 2) (by omega) (by omega), ZH (X.2 1 + 3) (by omega) (by omega), ZH (X.2 1 + 4) (by omega) (by omega), ZH (X.2 1 + 5) (by omega) (by omega), ZH (X.2 1 + 6) (by omega) (by omega), ZH (X.2 1 + 7) (by omega) (by omega)]
    refine ⟨by omega, q3, Or.inr ⟨by rw [Z1]; rfl, by omega, by omega, q1, by rw [uv]; exact q2⟩, fun m hm => ?_, fun m hm => ?_, fun m o hm ho => ?_, fun c hc => ?_⟩
    · obtain ⟨v0, v1, v2, v3, v4⟩ := b5 m hm
      rw [v0, v1, v2, v3, v4, uv]
      exact ri m hm
    · obtain ⟨v0, v1, v2, v3, v4⟩ := b5 m hm
      rw [v0, v1, v2, v3, v4]
      exact q4 m hm
    · rw [(b5 m hm).2.2.2.2, (b5 o ho).2.2.2.2]
      exact q5 m o hm ho
    · rw [uv] at hc
      rw [q6 c (by omega)]
      exact fn1_congr (fun x _ hx => by rw [(b5 x (by omega)).2.2.2.2])
  · have ht : t < (Z.1 43 19).toNat := ht
    rw [e19] at ht
    exact absurd ht (Nat.not_lt_zero t)
  · have ht : t < (Z.1 43 29).toNat := ht
    rw [e29] at ht
    exact absurd ht (Nat.not_lt_zero t)
  · unfold JX
    rw [b4 22 (by omega), b4 23 (by omega), b4 1 (by omega), b4 0 (by omega), Z1, Z1]
    refine ⟨(R43 22 (by omega)).trans h.2.2.2.2.2.2.1, (R43 23 (by omega)).trans h.2.2.2.2.2.2.2.1, ?_, ?_⟩
    · rw [if_neg (by decide), if_neg (by decide), if_neg (by decide)]
      exact h.2.2.2.2.2.2.2.2.1.trans (R43 1 (by omega)).symm
    · show (0 : Int) = up (BA Y0).1 43 0 0 43 0
      rw [up_row, u1_s]
theorem p_field (w : WD) (a b i n : Int) : PAIR w M_Tf_field M_Mo_field [.inl a, .inl b, .inl i, .inl n] := by
  intro X h
  by_cases hw : wz X a b i n = 0
  · have h1 : 0 ≤ a ∧ a < 4 := Decidable.byContradiction (fun z => by unfold wz at hw; rw [if_neg z] at hw; cases hw)
    have hb : 0 ≤ b ∧ b < 3 := Decidable.byContradiction (fun z => by unfold wz at hw; rw [if_pos h1, if_neg z] at hw; cases hw)
    obtain ⟨k, rfl⟩ := Int.eq_ofNat_of_zero_le h1.1
    have hk : k < 4 := by omega
    have hr := fof_rng X k b i n
    have hf : fof X k b i n = 0 := Decidable.byContradiction (fun z => by unfold wz at hw; rw [if_pos h1, if_pos hb, Int.toNat_natCast, if_neg z] at hw; omega)
    obtain ⟨-, f1, ⟨f2, -⟩, -⟩ := fof_0 hf
    obtain ⟨i, rfl⟩ := Int.eq_ofNat_of_zero_le f2
    obtain ⟨n, rfl⟩ := Int.eq_ofNat_of_zero_le f1
    have hrr := h.2.1
    have bb : X.2 1 = 27 ∨ X.2 1 = 35 := by rcases hrr with h | h <;> omega
    refine ⟨_, c_field1 w h hk hb hf, fun z Y hq => ?_⟩
    obtain ⟨Y0, g1, g2⟩ := hq
    rcases g2 with ⟨ok, rfl, hH, rfl⟩ | ⟨nok, rfl, rfl⟩
    · have R : ∀ r, 44 ≤ r → up (BA Y0).1 43 0 0 r = X.1 r := fun r p => by
        rw [up_ne (by omega)]
        show up (up (up (up Y0.1 1 8 1) 1 9 0) 17 2 0) 23 3 0 r = _
        rw [up_ne (by omega), up_ne (by omega), up_ne (by omega), up_ne (by omega), g1.1 r (by omega) (by omega)]
        exact up_ne (by omega)
      refine ⟨_, mk_Mo_field rfl (tx_Mo_field 3 (mo_field5 w (Y := (up (BA Y0).1 43 0 0, (BA Y0).2)) h (R 44 (by omega)) (R 45 (by omega)) (R 46 (by omega)) hk hb hf)), fun z' Z hq => ?_⟩
      rcases hq with ⟨-, rfl, hF⟩ | ⟨nok, -, -⟩
      · exact ⟨rfl, h.sown ok g1 hH hF⟩
      · exact absurd ok nok
    · have R : ∀ r, 44 ≤ r → up Y.1 43 0 0 r = X.1 r := fun r p => by
        rw [up_ne (by omega), g1.1 r (by omega) (by omega)]
        exact up_ne (by omega)
      refine ⟨_, mk_Mo_field rfl (tx_Mo_field 3 (mo_field5 w (Y := (up Y.1 43 0 0, Y.2)) h (R 44 (by omega)) (R 45 (by omega)) (R 46 (by omega)) hk hb hf)), fun z' Z hq => ?_⟩
      rcases hq with ⟨ok, -, -⟩ | ⟨-, rfl, hF⟩
      · exact absurd ok nok
      · refine ⟨rfl, ?_⟩
        have J1 : J (up (up X.1 1 11 0) 43 0 0, X.2) := h.tf (tf_ff h)
        have J2 : J (up Y.1 43 0 0, Y.2) := by
          refine J1.spare ⟨fun r p q => ?_, fun j hj => g1.2 j hj⟩
          show up Y.1 43 0 0 r = up (up X.1 1 11 0) 43 0 0 r
          by_cases e : r = 43
          · subst e
            rw [up_row, up_row, g1.1 43 (by omega) (by omega)]
          · rw [up_ne e, up_ne e]; exact g1.1 r p q
        exact J2.me ⟨fun r hr => hF.1 r (by omega) (by omega), hF.2.1, fun q hq => hF.2.2 q (by omega), fun q hq => by rw [hF.1 53 (by omega) (by omega), hF.1 54 (by omega) (by omega)]; exact ⟨rfl, rfl⟩⟩
  · refine PAIR.flt1 (r := wz X a b i n) (t := wf X a b i n) h ?_ (fun Y g => mo_fieldF w h g hw)
    refine mk_Tf_field rfl ?_
    refine sx_Tf_field ?_
    refine ⟨trivial, _, c_wc w h a b i n, fun z Y hq => ?_⟩
    obtain ⟨rfl, rfl⟩ := hq
    refine sx_Tf_field ?_
    exact ⟨fun q => absurd q hw, fun _ => ⟨trivial, (SW.one 1 11 X 0).tr (SW.one 1 11 _ _), rfl⟩⟩
