theorem mo_rdEnd (w : WD) {F n : Nat} {f : Nat → Int} {X : XS} {p m c : Nat} {M : Nat → Nat → Int} (hR : RDp m M X) (hm : m < 8) {cd kd x : Int} {Z : XS} (hZ : QZ F p m c f M X 4 Z) {Q : Int → XS → Prop} (hO : ∀ Y : XS, MFr X Y → Y.1 43 14 = ((F + (p + 4) : Nat) : Int) → RDp (m + 1) (uM f p m c M) Y → Q 1 Y) : Go w K_Mo_readMan 171 (LM F n m c cd kd x) [] Z Q := by
  obtain ⟨z1, z2, z3, z4, z5⟩ := hZ
  refine tx_Mo_readMan 7 ?_
  refine ⟨(ix5b (k := 4) hm (by omega)).1, (ix5b (k := 4) hm (by omega)).2, ?_⟩
  show Go w K_Mo_readMan 180 (LM F n m c cd kd x) [] (up Z.1 52 (wr (((5 * m : Nat) : Int) + ((4 : Nat) : Int))).toNat (c : Int), Z.2) Q
  rw [ix5 (m := m) (k := 4) (by omega) (by omega), Int.toNat_natCast]
  refine tx_Mo_readMan 6 ?_
  show Go w K_Mo_readMan 190 (LM F n m c cd kd x) [] (up (up Z.1 52 (5 * m + 4) (c : Int)) 43 17 (wr (up Z.1 52 (5 * m + 4) (c : Int) 43 17 + 1)), Z.2) Q
  have e : True → wr (up Z.1 52 (5 * m + 4) (c : Int) 43 17 + 1) = ((m + 1 : Nat) : Int) := fun _ => by rw [up_ne (by omega), z3, wr_id (by omega) (by omega)]; omega
  rw [e trivial]
  clear e
  refine sx_Mo_readMan ?_
  refine ⟨Or.inr rfl, hO _ ⟨fun r p q => ?_, z1.2.1, fun q a b => ?_⟩ ?_ ⟨?_, fun j hj a ha => ?_⟩⟩
  · show up (up Z.1 52 (5 * m + 4) (c : Int)) 43 17 ((m + 1 : Nat) : Int) r = _
    rw [up_ne p, up_ne q]; exact z1.1 r p q
  · show up (up Z.1 52 (5 * m + 4) (c : Int)) 43 17 ((m + 1 : Nat) : Int) 43 q = _
    rw [up_row, u1_n b, up_ne (by omega)]; exact z1.2.2 q a b
  · show up (up Z.1 52 (5 * m + 4) (c : Int)) 43 17 ((m + 1 : Nat) : Int) 43 14 = _
    rw [up_row, u1_n (by omega), up_ne (by omega)]; exact z2
  · show up (up Z.1 52 (5 * m + 4) (c : Int)) 43 17 ((m + 1 : Nat) : Int) 43 17 = _
    rw [up_row, u1_s]
  · show up (up Z.1 52 (5 * m + 4) (c : Int)) 43 17 ((m + 1 : Nat) : Int) 52 (5 * j + a) = _
    rw [up_ne (by omega), up_row]
    by_cases e : j = m
    · subst e
      by_cases e4 : a = 4
      · subst e4; rw [u1_s]; exact (uM_s).2.2.2.2.symm
      · rw [u1_n (by omega)]; exact z5 a (by omega)
    · rw [u1_n (by omega), uM_n e, z4 (5 * j + a) (by omega)]; exact hR.2 j (by omega) a ha
theorem mo_rdMan (w : WD) {F n : Nat} {f : Nat → Int} {X : XS} (h : RCm F n f X) {p : Nat} (hp : X.1 43 14 = ((F + p : Nat) : Int)) {m c : Nat} {M : Nat → Nat → Int} (hR : RDp m M X) (hm : m ≤ 8) : MS w M_Mo_readMan [.inr (.inr (7, 43)), .inl ((F + n : Nat) : Int), .inl (c : Int)] X (fun z Y => MFr X Y ∧ Y.1 43 14 = ((F + (p + mln f n p m) : Nat) : Int) ∧ ((mln f n p m = 4 ∧ z = 1 ∧ RDp (m + 1) (uM f p m c M) Y) ∨ (mln f n p m ≠ 4 ∧ z = 0))) := by
  obtain ⟨v0, v1, v2, v3, v4⟩ := uM_s (f := f) (p := p) (m := m) (c := c) (M := M)
  refine mk_Mo_readMan rfl ?_
  refine tx_Mo_readMan 5 ?_
  show Go w K_Mo_readMan 7 [some (.inr (.inr (7, 43))), some (.inl ((F + n : Nat) : Int)), some (.inl (c : Int)), some (.inl (wr (5 * X.1 43 17))), none, none, none] [] X _
  have e5 : wr (5 * X.1 43 17) = ((5 * m : Nat) : Int) := by rw [hR.1, wr_id (by omega) (by omega)]; omega
  rw [e5]
  clear e5
  have T85 : ∀ (kd cd : Int), (p < n ∧ m < 8) ∧ kdO (f p) ≠ -9 → kd = kdO (f p) → Go w K_Mo_readMan 85 [some (.inr (.inr (7, 43))), some (.inl ((F + n : Nat) : Int)), some (.inl (c : Int)), some (.inl ((5 * m : Nat) : Int)), some (.inl cd), some (.inl kd), none] [] X (fun z Y => MFr X Y ∧ Y.1 43 14 = ((F + (p + mln f n p m) : Nat) : Int) ∧ ((mln f n p m = 4 ∧ z = 1 ∧ RDp (m + 1) (uM f p m c M) Y) ∨ (mln f n p m ≠ 4 ∧ z = 0))) := by
    intro kd cd c0 ek
    subst ek
    have hm8 : m < 8 := c0.1.2
    unfold mln
    rw [if_pos c0]
    refine tx_Mo_readMan 6 ?_
    show Go w K_Mo_readMan 95 [some (.inr (.inr (7, 43))), some (.inl ((F + n : Nat) : Int)), some (.inl (c : Int)), some (.inl ((5 * m : Nat) : Int)), some (.inl cd), some (.inl (kdO (f p))), none] [] (up X.1 43 14 (wr (X.1 43 14 + 1)), X.2) _
    have e1 : wr (X.1 43 14 + 1) = ((F + (p + 1) : Nat) : Int) := by rw [hp]; have := h.1; rw [wr_id (by omega) (by omega)]; omega
    rw [e1]
    clear e1
    have S0 := SW.one 43 14 X ((F + (p + 1) : Nat) : Int)
    generalize ((up X.1 43 14 ((F + (p + 1) : Nat) : Int), X.2) : XS) = X1 at S0 ⊢
    refine tx_Mo_readMan 7 ?_
    refine ⟨(by omega), (by show _ < ((40 : Nat) : Int); omega), ?_⟩
    have Z1 : QZ F p m c f M X 1 (up X1.1 52 (5 * m) (kdO (f p)), X1.2) := by
      refine ⟨S0.mfr.tr (MFr.r52 X1 (5 * m) (kdO (f p))), ?_, ?_, fun q hq => ?_, fun a ha => ?_⟩
      · show up X1.1 52 (5 * m) (kdO (f p)) 43 14 = _
        rw [up_ne (by omega)]; exact S0.2.2.2
      · show up X1.1 52 (5 * m) (kdO (f p)) 43 17 = _
        rw [up_ne (by omega), S0.2.2.1 17 (by omega)]; exact hR.1
      · show up X1.1 52 (5 * m) (kdO (f p)) 52 q = _
        rw [up_row, u1_n (by omega), S0.1 52 (by omega)]
      · have e : a = 0 := by omega
        subst e
        show up X1.1 52 (5 * m) (kdO (f p)) 52 (5 * m + 0) = _
        rw [Nat.add_zero, up_row, u1_s]; exact v0.symm
    refine mo_rdK w h hm8 (kk := 1) (a := 48) (b := 49) (Or.inl ⟨rfl, rfl, rfl⟩) Z1 (fun _ => v1.symm) (fun t Y y1 y2 => ?_) (fun t Y y1 => ?_)
    · rw [if_neg t]; exact ⟨y1, y2, Or.inr ⟨by decide, rfl⟩⟩
    rw [if_pos t]
    refine mo_rdK w h hm8 (kk := 2) (a := 49) (b := 57) (Or.inr ⟨Or.inl rfl, rfl, rfl⟩) y1 (fun _ => v2.symm) (fun t Y y1 y2 => ?_) (fun t Y y1 => ?_)
    · rw [if_neg t]; exact ⟨y1, y2, Or.inr ⟨by decide, rfl⟩⟩
    rw [if_pos t]
    refine mo_rdK w h hm8 (kk := 3) (a := 49) (b := 57) (Or.inr ⟨Or.inr rfl, rfl, rfl⟩) y1 (fun _ => v3.symm) (fun t Y y1 y2 => ?_) (fun t Y y1 => ?_)
    · rw [if_neg t]; exact ⟨y1, y2, Or.inr ⟨by decide, rfl⟩⟩
    rw [if_pos t]
    have G := mo_rdEnd w (F := F) (n := n) (cd := cd) (kd := kdO (f p)) (x := ((3 + 1 : Nat) : Int)) hR hm8 y1 (Q := fun z Y => MFr X Y ∧ Y.1 43 14 = ((F + (p + 4) : Nat) : Int) ∧ ((4 = 4 ∧ z = 1 ∧ RDp (m + 1) (uM f p m c M) Y) ∨ (4 ≠ 4 ∧ z = 0))) (fun Y a1 a2 a3 => ⟨a1, a2, Or.inl ⟨rfl, rfl, a3⟩⟩)
    refine sx_Mo_readMan ?_
    exact ⟨fun _ => G, fun q => absurd (show ((3 + 1 : Nat) : Int) < 4 from q) (by decide)⟩
  have T74 : ∀ (kd cd : Int), (kd ≠ -9 → ((p < n ∧ m < 8) ∧ kdO (f p) ≠ -9) ∧ kd = kdO (f p)) → (kd = -9 → ¬ ((p < n ∧ m < 8) ∧ kdO (f p) ≠ -9)) → Go w K_Mo_readMan 74 [some (.inr (.inr (7, 43))), some (.inl ((F + n : Nat) : Int)), some (.inl (c : Int)), some (.inl ((5 * m : Nat) : Int)), some (.inl cd), none, none] [.inl kd] X (fun z Y => MFr X Y ∧ Y.1 43 14 = ((F + (p + mln f n p m) : Nat) : Int) ∧ ((mln f n p m = 4 ∧ z = 1 ∧ RDp (m + 1) (uM f p m c M) Y) ∨ (mln f n p m ≠ 4 ∧ z = 0))) := by
    intro kd cd k1 k2
    refine sx_Mo_readMan ?_
    refine ⟨fun q => ?_, fun q => ?_⟩
    · have q : kd ≠ -9 := q
      exact T85 kd cd (k1 q).1 (k1 q).2
    · have q : kd = -9 := q
      have e : mln f n p m = 0 := by unfold mln; rw [if_neg (k2 q)]
      exact ⟨Or.inl rfl, MFr.rf X, by rw [e]; exact hp, Or.inr ⟨by rw [e]; decide, rfl⟩⟩
  have T37 : ∀ cd : Int, (kdO cd ≠ -9 → ((p < n ∧ m < 8) ∧ kdO (f p) ≠ -9) ∧ kdO cd = kdO (f p)) → (kdO cd = -9 → ¬ ((p < n ∧ m < 8) ∧ kdO (f p) ≠ -9)) → Go w K_Mo_readMan 37 [some (.inr (.inr (7, 43))), some (.inl ((F + n : Nat) : Int)), some (.inl (c : Int)), some (.inl ((5 * m : Nat) : Int)), none, none, none] [.inl cd] X (fun z Y => MFr X Y ∧ Y.1 43 14 = ((F + (p + mln f n p m) : Nat) : Int) ∧ ((mln f n p m = 4 ∧ z = 1 ∧ RDp (m + 1) (uM f p m c M) Y) ∨ (mln f n p m ≠ 4 ∧ z = 0))) := by
    intro cd k1 k2
    refine sx_Mo_readMan ?_
    refine ⟨fun q => ?_, fun q => ?_⟩
    · have q : cd ≠ 109 := q
      refine sx_Mo_readMan ?_
      refine ⟨fun q2 => ?_, fun q2 => ?_⟩
      · have q2 : cd ≠ 108 := q2
        refine sx_Mo_readMan ?_
        refine ⟨fun q3 => ?_, fun q3 => ?_⟩
        · have q3 : cd ≠ 97 := q3
          have e : kdO cd = -9 := by unfold kdO; rw [if_neg q, if_neg q2, if_neg q3]
          refine tx_Mo_readMan 1 ?_
          rw [e] at k1 k2
          exact T74 (-9) cd k1 k2
        · have q3 : cd = 97 := q3
          have e : kdO cd = 2 := by unfold kdO; rw [if_neg q, if_neg q2, if_pos q3]
          rw [e] at k1 k2
          exact T74 2 cd k1 k2
      · have q2 : cd = 108 := q2
        have e : kdO cd = 1 := by unfold kdO; rw [if_neg q, if_pos q2]
        rw [e] at k1 k2
        exact T74 1 cd k1 k2
    · have q : cd = 109 := q
      have e : kdO cd = 0 := by unfold kdO; rw [if_pos q]
      rw [e] at k1 k2
      exact T74 0 cd k1 k2
  have h1 := h.1
  refine sx_Mo_readMan ?_
  refine ⟨fun q => ?_, fun q => ⟨fun q2 => ?_, fun q2 => ?_⟩⟩
  · have q : ((F + n : Nat) : Int) ≤ X.1 43 14 := q
    refine tx_Mo_readMan 1 ?_
    exact T37 0 (fun z => absurd (by decide) z) (fun _ z => by have := z.1.1; omega)
  · have q2 : (8 : Int) ≤ X.1 43 17 := q2
    have := hR.1
    refine tx_Mo_readMan 1 ?_
    exact T37 0 (fun z => absurd (by decide) z) (fun _ z => by have := z.1.2; omega)
  · have q : X.1 43 14 < ((F + n : Nat) : Int) := q
    have q2 : X.1 43 17 < (8 : Int) := q2
    have := hR.1
    have hpn : p < n := by omega
    have e : X.1 46 (X.1 43 14).toNat = f p := by rw [hp, Int.toNat_natCast]; exact h.2 p hpn
    refine ⟨(by omega), (by show _ < ((240 : Nat) : Int); omega), ?_⟩
    refine T37 _ (fun z => ?_) (fun z g => g.2 ?_)
    · have z : kdO (X.1 46 (X.1 43 14).toNat) ≠ -9 := z
      show _ ∧ kdO (X.1 46 (X.1 43 14).toNat) = _
      rw [e] at z ⊢
      exact ⟨⟨⟨hpn, by omega⟩, z⟩, rfl⟩
    · have z : kdO (X.1 46 (X.1 43 14).toNat) = -9 := z
      rw [e] at z
      exact z
