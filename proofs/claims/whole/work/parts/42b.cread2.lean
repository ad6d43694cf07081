/-- a host that holds what was read -/
def HC (b w N m : Nat) (M : Nat → Nat → Int) (X : XS) : Prop := X.1 b 7 = (w : Int) ∧ X.1 b 8 = (N : Int) ∧ X.1 b 9 = (m : Int) ∧ (∀ j, j < m → X.1 (b + 1) j = M j 0 ∧ X.1 (b + 2) j = M j 1 ∧ X.1 (b + 3) j = M j 2 ∧ X.1 (b + 4) j = M j 3 ∧ X.1 (b + 5) j = M j 4) ∧ (∀ q o, q < m → o < m → X.1 (b + 6) (q * 9 + o) = fr (w : Int) (M q 4) (M o 4)) ∧ ∀ c, c < N → X.1 (b + 7) c = fn1 (fun j => decide (M j 4 = (c : Int))) 0 m
theorem HC.sw {b w N m : Nat} {M : Nat → Nat → Int} {X Y : XS} {t : Int} (hb : b = 27 ∨ b = 35) (h : HC b w N m M X) (g : SW 11 1 X Y t) : HC b w N m M Y := by
  unfold HC
  rw [g.1 b (by omega), g.1 (b + 1) (by omega), g.1 (b + 2) (by omega), g.1 (b + 3) (by omega), g.1 (b + 4) (by omega), g.1 (b + 5) (by omega), g.1 (b + 6) (by omega), g.1 (b + 7) (by omega)]
  exact h
theorem uM_s {f : Nat → Int} {p m c : Nat} {M : Nat → Nat → Int} : uM f p m c M m 0 = kdO (f p) ∧ uM f p m c M m 1 = f (p + 1) - 48 ∧ uM f p m c M m 2 = f (p + 2) - 48 ∧ uM f p m c M m 3 = f (p + 3) - 48 ∧ uM f p m c M m 4 = (c : Int) := by
  simp [uM]
theorem uM_n {f : Nat → Int} {p m c : Nat} {M : Nat → Nat → Int} {j a : Nat} (h : j ≠ m) : uM f p m c M j a = M j a := by
  simp [uM, h]
theorem fn1_app (p : Nat → Bool) : ∀ k j, fn1 p j (k + 1) = if fn1 p j k = -9 ∧ p (j + k) = true then ((j + k : Nat) : Int) else fn1 p j k
  | 0, j => by
    show (if p j = true then (j : Int) else -9) = _
    by_cases e : p j = true
    · rw [if_pos e, if_pos ⟨rfl, e⟩]; rfl
    · rw [if_neg e, if_neg (fun z => e z.2)]; rfl
  | k + 1, j => by
    rw [fn1_s, fn1_app p k (j + 1), fn1_s p j k]
    by_cases e : p j = true
    · rw [if_pos e, if_pos e, if_neg (show ¬ ((j : Int) = -9 ∧ p (j + (k + 1)) = true) from fun z => by have := z.1; omega)]
    · rw [if_neg e, if_neg e, show j + 1 + k = j + (k + 1) by omega]
theorem HC.add {b w N m : Nat} {M : Nat → Nat → Int} {X Y : XS} {f : Nat → Int} {p c : Nat} (h : HC b w N m M X) (hm : m ≤ 8) (pl : ∀ j, j < m → 0 ≤ M j 4 ∧ M j 4 < (c : Int)) (g : AD b m c (kdO (f p)) (f (p + 1) - 48) (f (p + 2) - 48) (f (p + 3) - 48) X Y) : HC b w N (m + 1) (uM f p m c M) Y := by
  obtain ⟨h1, h2, h3, h4, h5, h6⟩ := h
  obtain ⟨d1, d2, d3, d4, d5, d6, d7, d8, d9, d10, d11⟩ := g
  obtain ⟨v0, v1, v2, v3, v4⟩ := uM_s (f := f) (p := p) (m := m) (c := c) (M := M)
  refine ⟨(d3 7 (by decide)).trans h1, (d3 8 (by decide)).trans h2, d4, fun j hj => ?_, fun q o hq ho => ?_, fun e he => ?_⟩
  · rw [d5, d6, d7, d8, d9]
    by_cases e : j = m
    · subst e
      rw [u1_s, u1_s, u1_s, u1_s, u1_s, v0, v1, v2, v3, v4]
      exact ⟨rfl, rfl, rfl, rfl, rfl⟩
    · rw [u1_n e, u1_n e, u1_n e, u1_n e, u1_n e, uM_n e, uM_n e, uM_n e, uM_n e, uM_n e]
      exact h4 j (by omega)
  · have pl' : ∀ j, j < m + 1 → u1 (X.1 (b + 5)) m (c : Int) j = uM f p m c M j 4 := fun j hj => by
      by_cases e : j = m
      · subst e; rw [u1_s, v4]
      · rw [u1_n e, uM_n e]; exact (h4 j (by omega)).2.2.2.2
    rw [d11 q o (by omega) (by omega), pl' q hq, pl' o ho, h1]
    by_cases e : q = m ∨ o = m
    · rw [if_pos e]
    · rw [if_neg e, uM_n (fun z => e (Or.inl z)), uM_n (fun z => e (Or.inr z))]
      exact h5 q o (by omega) (by omega)
  · rw [d10, fn1_app, Nat.zero_add]
    have E : fn1 (fun j => decide (uM f p m c M j 4 = (e : Int))) 0 m = fn1 (fun j => decide (M j 4 = (e : Int))) 0 m := fn1_congr (fun x _ hx => by rw [uM_n (by omega)])
    rw [E, v4]
    by_cases ec : e = c
    · subst ec
      have N0 : fn1 (fun j => decide (M j 4 = (e : Int))) 0 m = -9 := fn1_no (fun x _ hx => by
        have := pl x (by omega)
        exact decide_eq_false (by omega))
      rw [u1_s, N0, if_pos ⟨rfl, decide_eq_true rfl⟩]
    · rw [u1_n ec, if_neg (fun z => ec (by have := of_decide_eq_true z.2; omega))]
      exact h6 e he
theorem c_rdMan (w : WD) {k i n : Nat} {f : Nat → Int} {X : XS} (h : RC k i n f X) {p : Nat} (hp : X.1 11 1 = ((i + p : Nat) : Int)) {b v N m c : Nat} {M : Nat → Nat → Int} (hb : b = 27 ∨ b = 35) (hH : HC b v N m M X) (hm : m ≤ 8) (pl : ∀ j, j < m → 0 ≤ M j 4 ∧ M j 4 < (c : Int)) (hc : c < N) (hN : N ≤ 20) (hv : 2 ≤ v ∧ v ≤ 5) : MS w M_Tr_readMan [.inr (.inr (5, 11)), .inr (.inr (1, b)), .inl (c : Int)] X (fun z Y => CFh b X Y ∧ Y.1 11 1 = ((i + (p + mln f n p m) : Nat) : Int) ∧ ((mln f n p m = 4 ∧ z = 1 ∧ HC b v N (m + 1) (uM f p m c M) Y) ∨ (mln f n p m ≠ 4 ∧ z = 0))) := by
  refine mk_Tr_readMan rfl ?_
  have T25 : ∀ (Y : XS) (kd : Int), (p < n ∧ m < 8) ∧ kdO (f p) ≠ -9 → SW 11 1 X Y ((i + p + 1 : Nat) : Int) → kd = kdO (f p) → Go w K_Tr_readMan 25 [some (.inr (.inr (5, 11))), some (.inr (.inr (1, b))), some (.inl (c : Int)), some (.inl kd), none, none, none] [] Y (fun z Y => CFh b X Y ∧ Y.1 11 1 = ((i + (p + mln f n p m) : Nat) : Int) ∧ ((mln f n p m = 4 ∧ z = 1 ∧ HC b v N (m + 1) (uM f p m c M) Y) ∨ (mln f n p m ≠ 4 ∧ z = 0))) := by
    intro Y kd c0 S ek
    subst ek
    unfold mln
    rw [if_pos c0]
    have hR := h.cf hb (S.cf (b := b))
    refine sx_Tr_readMan ?_
    refine ⟨trivial, _, c_dg w hR (p := p + 1) S.2.2.2 (l := 0) (u := 1) (a := 48) (b := 49) (by decide) (by decide) (by decide) (by decide), fun z Y1 hq => ?_⟩
    rcases hq with ⟨t1, S1, rfl⟩ | ⟨t1, rfl, rfl⟩
    case inr =>
      rw [if_neg t1]
      refine sx_Tr_readMan ?_
      exact ⟨fun q => absurd (show (0 : Int) ≤ -9 from q) (by decide), fun _ => ⟨Or.inl rfl, S.cf, S.2.2.2, Or.inr ⟨by decide, rfl⟩⟩⟩
    rw [if_pos t1]
    have S1 := S.tr S1
    have hR1 := h.cf hb (S1.cf (b := b))
    refine sx_Tr_readMan ?_
    refine ⟨fun _ => ?_, fun q => absurd (show f (p + 1) - 48 < 0 from q) (by omega)⟩
    refine sx_Tr_readMan ?_
    refine ⟨trivial, _, c_dg w hR1 (p := p + 2) S1.2.2.2 (l := 1) (u := 9) (a := 49) (b := 57) (by decide) (by decide) (by decide) (by decide), fun z Y2 hq => ?_⟩
    rcases hq with ⟨t2, S2, rfl⟩ | ⟨t2, rfl, rfl⟩
    case inr =>
      rw [if_neg t2]
      refine sx_Tr_readMan ?_
      exact ⟨fun q => absurd (show (0 : Int) ≤ -9 from q) (by decide), fun _ => ⟨Or.inl rfl, S1.cf, S1.2.2.2, Or.inr ⟨by decide, rfl⟩⟩⟩
    rw [if_pos t2]
    have S2 := S1.tr S2
    have hR2 := h.cf hb (S2.cf (b := b))
    refine sx_Tr_readMan ?_
    refine ⟨fun _ => ?_, fun q => absurd (show f (p + 2) - 48 < 0 from q) (by omega)⟩
    refine sx_Tr_readMan ?_
    refine ⟨trivial, _, c_dg w hR2 (p := p + 3) S2.2.2.2 (l := 1) (u := 9) (a := 49) (b := 57) (by decide) (by decide) (by decide) (by decide), fun z Y3 hq => ?_⟩
    rcases hq with ⟨t3, S3, rfl⟩ | ⟨t3, rfl, rfl⟩
    case inr =>
      rw [if_neg t3]
      refine sx_Tr_readMan ?_
      exact ⟨fun q => absurd (show (0 : Int) ≤ -9 from q) (by decide), fun _ => ⟨Or.inl rfl, S2.cf, S2.2.2.2, Or.inr ⟨by decide, rfl⟩⟩⟩
    rw [if_pos t3]
    have S3 := S2.tr S3
    have H3 := hH.sw hb S3
    obtain ⟨g1, g2, g3, g4, g5, g6⟩ := H3
    refine sx_Tr_readMan ?_
    refine ⟨fun _ => ?_, fun q => absurd (show f (p + 3) - 48 < 0 from q) (by omega)⟩
    refine sx_Tr_readMan ?_
    refine ⟨trivial, _, c_hadd w (X := Y3) (b := b) (n := m) (c := c) hb g3 hm (by rw [g2]; omega) (by rw [g2]; omega) (by rw [g1]; omega) (fun j hj => by rw [(g4 j hj).2.2.2.2]; have := pl j hj; omega) (kdO (f p)) (f (p + 1) - 48) (f (p + 2) - 48) (f (p + 3) - 48), fun _ Y4 hA => ?_⟩
    refine sx_Tr_readMan ?_
    refine ⟨Or.inr rfl, S3.cf.tr (hA.cf hb), ?_, Or.inl ⟨rfl, rfl, HC.add ⟨g1, g2, g3, g4, g5, g6⟩ hm pl hA⟩⟩
    rw [hA.1 11 (by omega)]
    exact S3.2.2.2
  have hcnt := hH.2.2.1
  refine sx_Tr_readMan ?_
  refine ⟨fun q => ?_, fun q => ?_⟩
  · have q : (8 : Int) ≤ X.1 b 9 := q
    have e : mln f n p m = 0 := by unfold mln; rw [if_neg (fun z => by have := z.1.2; omega)]
    refine sx_Tr_readMan ?_
    refine ⟨fun q => absurd (show (0 : Int) ≤ -9 from q) (by decide), fun _ => ⟨Or.inl rfl, CFh.rf b X, by rw [e]; exact hp, Or.inr ⟨by rw [e]; decide, rfl⟩⟩⟩
  · have q : X.1 b 9 < (8 : Int) := q
    refine ⟨trivial, _, c_letter w h hp, fun z Y hq => ?_⟩
    rcases hq with ⟨t, S, rfl⟩ | ⟨t, rfl, rfl⟩
    · have hk := kdO_rng (f p)
      refine sx_Tr_readMan ?_
      refine sx_Tr_readMan ?_
      refine ⟨fun _ => ?_, fun q => absurd (show kdO (f p) < 0 from q) (by omega)⟩
      exact T25 Y _ ⟨⟨t.1, by omega⟩, t.2⟩ S rfl
    · have e : mln f n p m = 0 := by unfold mln; rw [if_neg (fun z => t ⟨z.1.1, z.2⟩)]
      refine sx_Tr_readMan ?_
      refine sx_Tr_readMan ?_
      refine ⟨fun q => absurd (show (0 : Int) ≤ -9 from q) (by decide), fun _ => ⟨Or.inl rfl, CFh.rf b Y, by rw [e]; exact hp, Or.inr ⟨by rw [e]; decide, rfl⟩⟩⟩
