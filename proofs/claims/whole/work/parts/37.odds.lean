/-! ===== odds ===== -/
def cnt (p : Nat → Nat) : Nat → Nat
  | 0 => 0
  | k + 1 => cnt p k + p k
theorem cnt_s (p : Nat → Nat) (k : Nat) : cnt p (k + 1) = cnt p k + p k := rfl
theorem cnt_rev (p : Nat → Nat) (N : Nat) : ∀ k, k ≤ N → cnt (fun t => p (N - (t + 1))) k + cnt p (N - k) = cnt p N
  | 0, _ => by rw [Nat.sub_zero]; exact Nat.zero_add _
  | k + 1, hk => by
    have ih := cnt_rev p N k (by omega)
    rw [show N - k = N - (k + 1) + 1 by omega, cnt_s] at ih
    rw [cnt_s]
    show cnt _ k + p (N - (k + 1)) + cnt p (N - (k + 1)) = _
    omega
theorem cnt_rev1 (p : Nat → Nat) (N : Nat) : cnt (fun t => p (N - (t + 1))) N = cnt p N := by
  have := cnt_rev p N N (Nat.le_refl N)
  rw [Nat.sub_self] at this
  exact this
theorem cnt_le {p : Nat → Nat} (h : ∀ u, p u ≤ 1) : ∀ k, cnt p k ≤ k
  | 0 => Nat.le_refl 0
  | k + 1 => by
    have := cnt_le h k
    have := h k
    rw [cnt_s]
    omega
def hlv : Nat → Nat → Nat → Nat × Nat
  | 0, u, l => (u, l)
  | k + 1, u, l => if u % 2 = 0 then hlv k (u / 2) (l / 2) else (u, l)
theorem hlv_s (k u l : Nat) : hlv (k + 1) u l = if u % 2 = 0 then hlv k (u / 2) (l / 2) else (u, l) := rfl
theorem hlv_gcd : ∀ n : Nat, n < 7 → ∀ u : Nat, u < 65 → u ≤ 2 ^ n → hlv n u (2 ^ n) = (u / Nat.gcd u (2 ^ n), 2 ^ n / Nat.gcd u (2 ^ n)) := by decide +kernel
theorem p2s : ∀ n : Nat, n < 7 → 2 ^ n ≤ 64 ∧ 0 < 2 ^ n := by decide +kernel
theorem p2i : ∀ n : Nat, n < 31 → (2 : Int) ^ n = ((2 ^ n : Nat) : Int) := by decide +kernel
def od (X : XS) (m u : Nat) : Nat := if (bsN (RT X (stl (X.1 53) (X.1 54) u (nS X))).1 (nM X)).testBit m = true then 1 else 0
theorem od_le (X : XS) (m u : Nat) : od X m u ≤ 1 := by
  unfold od
  split
  · exact Nat.le_refl 1
  · exact Nat.zero_le 1
def hf (X : XS) (m : Nat) : Nat × Nat := hlv (nS X) (cnt (od X m) (2 ^ nS X)) (2 ^ nS X)
def a_odds (m b : Int) (X : XS) : Int := if (0 ≤ m ∧ m < X.1 43 7) ∧ 0 ≤ b ∧ b < 2 then (if b = 0 then ((hf X m.toNat).1 : Int) else ((hf X m.toNat).2 : Int)) else -9223372036854775808
theorem c_lwss (w : WD) {X Y : XS} (h : J X) (hC0 : CS X Y) {T : Nat} (hT : T < 2 ^ nS X) : MS w M_Tf_leftWithSomeStones [.inr (.inr (6, 1)), .inl (T : Int)] Y (fun z Z => CS X Z ∧ z = ((bsN (RT X (stl (X.1 53) (X.1 54) (2 ^ nS X - (T + 1)) (nS X))).1 (nM X) : Nat) : Int)) := by
  have hn := h.n
  have hns := h.ns
  have hp := p2s (nS X) (by omega)
  obtain ⟨t1, t2, t3⟩ := h.2.2.2.2.1
  have hbit : ∀ j, j < nS X → (2 ^ nS X - (T + 1)).testBit j = !T.testBit j := fun j hj => by
    rw [Nat.testBit_two_pow_sub_succ hT, decide_eq_true hj, Bool.true_and]
  have hin : ∀ k, k ≤ nS X → ∀ q ∈ stl (X.1 53) (X.1 54) (2 ^ nS X - (T + 1)) k, 0 ≤ q.1 ∧ q.1 < (dn (DM X) : Int) := by
    intro k
    induction k with
    | zero => intro _ q hq; cases hq
    | succ k ih =>
      intro hk q hq
      rw [stl_s] at hq
      rcases List.mem_append.mp hq with hq | hq
      · exact ih (by omega) q hq
      · by_cases e : (2 ^ nS X - (T + 1)).testBit k = true
        · rw [if_pos e] at hq; cases hq
        · rw [if_neg e] at hq
          rw [List.mem_singleton.mp hq]
          obtain ⟨-, -, a, -⟩ := t3 k (by omega)
          exact ⟨a.1, by show _ < (nM X : Int); rw [← hn.1]; exact a.2⟩
  refine mk_Tf_leftWithSomeStones rfl ?_
  refine tx_Tf_leftWithSomeStones 6 ?_
  have L : ∀ j, j ≤ nS X → ∀ (c : Int) (Z : XS) (n : Nat), c = (j : Int) → CS X Z → TL (stl (X.1 53) (X.1 54) (2 ^ nS X - (T + 1)) j) Z n → n ≤ j → Go w K_Tf_leftWithSomeStones 10 [some (.inr (.inr (6, 1))), some (.inl (T : Int)), some (.inl c)] [] Z (fun z Z => CS X Z ∧ z = ((bsN (RT X (stl (X.1 53) (X.1 54) (2 ^ nS X - (T + 1)) (nS X))).1 (nM X) : Nat) : Int)) := by
    refine lp ?_
    intro j hj ih c Z n hc hC hL hl
    subst hc
    have hJ := h.cs hC
    have r18 := hC.1 18 (by omega)
    have r19 := hC.1 19 (by omega)
    have hcn : Z.1 17 2 = (nS X : Int) := by rw [hC.1 17 (by omega), t2]; exact hns.1
    refine sx_Tf_leftWithSomeStones ?_
    refine ⟨fun q => ?_, fun q => ?_⟩
    · have e : j = nS X := by omega
      subst e
      have A := c_trial w h hC hL (hin (nS X) (Nat.le_refl _))
      refine sx_Tf_leftWithSomeStones ?_
      refine ⟨hJ.b0, trivial, _, A, fun z Z4 hq => ?_⟩
      refine sx_Tf_leftWithSomeStones ?_
      exact ⟨trivial, hq.1, hq.2.2⟩
    · have hjn : j < nS X := by omega
      obtain ⟨e1, e2, -⟩ := t3 j hjn
      have hb := hbit j hjn
      refine ⟨trivial, _, c_isIn w Z (S := T) (k := j) (by omega) (by omega), fun z Z1 hq => ?_⟩
      obtain ⟨rfl, rfl⟩ := hq
      refine sx_Tf_leftWithSomeStones ?_
      refine ⟨fun q => ?_, fun q => ?_⟩
      · have f : T.testBit j = false := Bool.eq_false_iff.mpr (nif q)
        refine sx_Tf_leftWithSomeStones ?_
        refine ih hjn _ _ n (w1 rfl (by omega)) hC ?_ (by omega)
        rw [stl_s, if_pos (by rw [hb, f]; rfl), List.append_nil]
        exact hL
      · have f : T.testBit j = true := pif q
        refine ⟨(by omega), (by show _ < ((6 : Nat) : Int); omega), (by omega), (by show _ < ((6 : Nat) : Int); omega), trivial, _, c_tadd w hL (show n < 30 by omega) (Z1.1 18 j) (Z1.1 19 j), fun _ Z2 hq => ?_⟩
        obtain ⟨g3, g4⟩ := hq
        refine sx_Tf_leftWithSomeStones ?_
        refine ih hjn _ _ (n + 1) (w1 rfl (by omega)) (hC.tr g3) ?_ (by omega)
        rw [stl_s, if_neg (by rw [hb, f]; decide), ← e1, ← e2, ← r18, ← r19]
        exact g4
  exact L 0 (Nat.zero_le _) 0 _ 0 rfl (CS.up hC0 (by omega)) ⟨by decide, by simp [up_g], rfl⟩ (Nat.le_refl _)
/-! halves -/
theorem shr1 (u : Nat) : (u : Int) / 2 ^ (1 : Int).toNat = ((u / 2 : Nat) : Int) := by
  show (u : Int) / 2 = _
  omega
theorem c_halve (w : WD) {X Z : XS} (h : J X) (hC : CS X Z) {m b : Int} : ∀ j, j ≤ nS X → ∀ (c : Int) (u l : Nat) (R : Nat × Nat), c = (j : Int) → u < 512 → l < 512 → hlv (nS X - j) u l = R → Go w K_Tf_odds 78 [some (.inr (.inr (6, 1))), some (.inl m), some (.inl b), some (.inl (u : Int)), some (.inl (l : Int)), some (.inl c)] [] Z (fun z Z => CS X Z ∧ z = if b = 0 then (R.1 : Int) else (R.2 : Int)) := by
  have hns := h.ns
  obtain ⟨t1, t2, t3⟩ := h.2.2.2.2.1
  have hcn : Z.1 17 2 = (nS X : Int) := by rw [hC.1 17 (by omega), t2]; exact hns.1
  have FIN : ∀ (c : Int) (u l : Nat) (R : Nat × Nat), (u, l) = R → Go w K_Tf_odds 112 [some (.inr (.inr (6, 1))), some (.inl m), some (.inl b), some (.inl (u : Int)), some (.inl (l : Int)), some (.inl c)] [] Z (fun z Z => CS X Z ∧ z = if b = 0 then (R.1 : Int) else (R.2 : Int)) := by
    intro c u l R hR
    subst hR
    refine sx_Tf_odds ?_
    refine ⟨fun q => ?_, fun q => ?_⟩
    · have q : b ≠ 0 := q
      rw [if_neg q]
      refine sx_Tf_odds ?_
      exact ⟨hC, rfl⟩
    · have q : b = 0 := q
      rw [if_pos q]
      refine sx_Tf_odds ?_
      exact ⟨hC, rfl⟩
  refine lp ?_
  intro j hj ih c u l R hc hu hl hR
  subst hc
  refine sx_Tf_odds ?_
  refine ⟨fun q => ?_, fun q => ?_⟩
  · have q : Z.1 17 2 ≤ (j : Int) := q
    refine FIN _ u l R ?_
    rw [← hR, show nS X - j = 0 by omega]
    rfl
  · have q : (j : Int) < Z.1 17 2 := q
    have hjn : j < nS X := by omega
    rw [show nS X - j = nS X - (j + 1) + 1 by omega, hlv_s] at hR
    refine ⟨fun q2 => ?_, fun q2 => ?_⟩
    · have q2 : ia (u : Int) 1 ≠ 0 := q2
      rw [sz1' u hu] at q2
      rw [if_neg (by omega)] at hR
      exact FIN _ u l R hR
    · have q2 : ia (u : Int) 1 = 0 := q2
      rw [sz1' u hu] at q2
      rw [if_pos (by omega)] at hR
      refine ⟨by decide, by decide, by decide, by decide, ?_⟩
      rw [shr1 u, shr1 l]
      exact ih hjn _ _ _ R (w1 rfl (by omega)) (by omega) (by omega) hR
