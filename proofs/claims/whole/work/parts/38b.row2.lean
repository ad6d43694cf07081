/-! ===== row ===== -/
theorem tf_ff {X : XS} (h : J X) : TF X (up (up X.1 1 11 0) 43 0 0, X.2) := by
  refine ⟨fun i a b => ?_, rfl, fun k hk => ?_, fun k hk => ?_, ?_, ?_⟩
  · show up (up X.1 1 11 0) 43 0 0 i = _
    rw [up_ne b, up_ne a]
  · show up (up X.1 1 11 0) 43 0 0 1 k = _
    rw [up_ne (by omega), up_row, u1_n (by omega)]
  · show up (up X.1 1 11 0) 43 0 0 43 k = _
    rw [up_row, u1_n (by omega), up_ne (by omega)]
  · show up (up X.1 1 11 0) 43 0 0 1 10 = up (up X.1 1 11 0) 43 0 0 43 1
    rw [up_ne (by omega), up_row, u1_n (by omega), up_row, u1_n (by omega), up_ne (by omega)]
    exact h.2.2.2.2.2.2.2.2.1
  · show up (up X.1 1 11 0) 43 0 0 1 11 = up (up X.1 1 11 0) 43 0 0 43 0
    rw [up_ne (by omega), up_row, u1_s, up_row, u1_s]
theorem J.ff {X Y : XS} (h : J X) (g : CS (up X.1 1 11 0, X.2) Y) : J (up Y.1 43 0 0, Y.2) := by
  refine (h.tf (tf_ff h)).cs ⟨fun i hi => ?_, g.2.1, g.2.2⟩
  show up Y.1 43 0 0 i = up (up X.1 1 11 0) 43 0 0 i
  by_cases e : i = 43
  · subst e
    rw [up_row, up_row, g.1 43 hi]
  · rw [up_ne e, up_ne e, g.1 i hi]
/-- the reference's rows are the same, but for the fault -/
def RF (X Y : XS) : Prop := (∀ i, 44 ≤ i → Y.1 i = X.1 i) ∧ ∀ k, k ≠ 0 → Y.1 43 k = X.1 43 k
theorem RF.dm {X Y : XS} (h : RF X Y) : DM Y = DM X := by
  unfold DM
  rw [h.2 7 (by omega), h.2 6 (by omega), h.1 47 (by omega), h.1 48 (by omega), h.1 49 (by omega), h.1 50 (by omega), h.1 51 (by omega)]
theorem RF.rt {X Y : XS} (h : RF X Y) (S : List (Int × Int)) : RT Y S = RT X S := by unfold RT; rw [h.dm, h.2 13 (by omega)]
theorem rf_ff {X Y : XS} (g : CS (up X.1 1 11 0, X.2) Y) : RF X (up Y.1 43 0 0, Y.2) := by
  refine ⟨fun i hi => ?_, fun k hk => ?_⟩
  · show up Y.1 43 0 0 i = _
    rw [up_ne (by omega), g.1 i (by omega)]
    exact up_ne (by omega)
  · show up Y.1 43 0 0 43 k = _
    rw [up_row, u1_n hk, g.1 43 (by omega)]
    show up X.1 1 11 0 43 k = _
    rw [up_ne (by omega)]
def rwl (X : XS) (k i n : Nat) : List (Int × Int) := stl (fun t => X.1 46 (60 * k + i + t)) (fun t => (t : Int)) 0 n
def rv (X : XS) (k i n : Nat) : Int := if X.1 43 5 * X.1 43 6 = 0 then -3 else if 30 < n then -2 else if ∀ t, t < n → 0 ≤ X.1 46 (60 * k + i + t) ∧ X.1 46 (60 * k + i + t) < X.1 43 7 then ((bsN (RT X (rwl X k i n)).1 (nM X) : Nat) : Int) else -1
theorem rf_rv {X Y : XS} (h : RF X Y) (k i n : Nat) : rv Y k i n = rv X k i n := by
  unfold rv rwl nM
  rw [h.rt, h.1 46 (by omega), h.2 5 (by omega), h.2 6 (by omega), h.2 7 (by omega)]
theorem c_trialG (w : WD) {D : FD} {Y : XS} {law : Int} {S : List (Int × Int)} {n : Nat} (hB : HB D (Y.2 0) Y) (hl : Y.1 1 9 = law) (hl2 : law = 0 ∨ law = 1 ∨ law = 2) (hT : TL S Y n) (hS : ∀ q ∈ S, 0 ≤ q.1 ∧ q.1 < (dn D : Int)) : MS w M_Fi_run [.inr (.inr (0, 12)), .inr (.inr (1, Y.2 0)), .inr (.inr (4, 20)), .inl (Y.1 1 9), .inl 29, .inl (-9)] Y (fun z Z => CS Y Z ∧ z = ((bsN (run D law S (-9) 30).1 (dn D) : Nat) : Int)) := by
  have A := c_run w (ab := -9) (law := law) hB hl2 (hT.sc hS) (last := 29) (by decide)
  rw [hl]
  exact ms_imp A (fun z Z hq => ⟨hq.1.cs, hq.2.2⟩)
theorem HB.sw {D : FD} {b k : Nat} {X Y : XS} {t : Int} (h : HB D b X) (g : SW 1 k X Y t) : HB D b Y := by
  obtain ⟨h0, h1, h2, h3, h4⟩ := h
  refine ⟨h0, ?_⟩
  rw [g.1 b (by omega), g.1 (b + 1) (by omega), g.1 (b + 2) (by omega), g.1 (b + 3) (by omega), g.1 (b + 4) (by omega), g.1 (b + 6) (by omega)]
  exact ⟨h1, h2, h3, h4⟩
theorem c_row1 (w : WD) {X : XS} (h : J X) {k i n : Nat} {b : Int} (hk : k < 4) (hb : 0 ≤ b ∧ b < 3) (hf : fof X k b (i : Int) (n : Int) = 0) : MS w M_Tf_row [.inr (.inr (6, 1)), .inl (k : Int), .inl b, .inl (i : Int), .inl (n : Int)] X (fun z Y => CS (up X.1 1 11 0, X.2) Y ∧ z = rv X k i n) := by
  have hn := h.n
  have hal := h.all
  obtain ⟨⟨l1, l2⟩, f1, ⟨f2, f3⟩, f4⟩ := fof_0 hf
  obtain ⟨a1, a2, a3, a4, a5, a6, a7, a8⟩ := (h.1 k hk).resolve_left (fun z => l1 z.2)
  have W := c_wc w h (k : Int) b (i : Int) (n : Int)
  have e1 : wf X (k : Int) b (i : Int) (n : Int) = 0 := by unfold wf; rw [if_pos ⟨by omega, hb⟩, Int.toNat_natCast]; exact hf
  have e2 : wz X (k : Int) b (i : Int) (n : Int) = 0 := by unfold wz; rw [if_pos (by omega), if_pos hb, Int.toNat_natCast, if_pos hf]
  have S0 := SW.one 1 11 X 0
  have uu : up (up X.1 1 11 0) 1 11 0 = up X.1 1 11 0 := by
    funext j
    by_cases e : j = 1
    · subst e
      rw [up_row, up_row]
      funext q
      by_cases e : q = 11
      · subst e; rw [u1_s, u1_s]
      · rw [u1_n e, u1_n e]
    · rw [up_ne e, up_ne e]
  rw [e1, e2, uu] at W
  clear e1 e2 uu
  refine mk_Tf_row rfl ?_
  refine sx_Tf_row ?_
  refine ⟨trivial, _, W, fun z Y hq => ?_⟩
  obtain ⟨rfl, rfl⟩ := hq
  refine sx_Tf_row ?_
  refine ⟨fun _ => ?_, fun q => absurd rfl q⟩
  have rs : up X.1 1 11 0 1 8 = X.1 1 8 := by rw [up_row, u1_n (by omega)]
  unfold rv
  refine sx_Tf_row ?_
  refine ⟨fun q => ?_, fun q => ?_⟩
  case refine_2 =>
    have q : up X.1 1 11 0 1 8 = 0 := q
    rw [rs] at q
    rw [if_pos (show X.1 43 5 * X.1 43 6 = 0 by omega)]
    exact ⟨trivial, CS.rf _, rfl⟩
  have q : up X.1 1 11 0 1 8 ≠ 0 := q
  rw [rs] at q
  rw [if_neg (show ¬ X.1 43 5 * X.1 43 6 = 0 by omega)]
  refine sx_Tf_row ?_
  refine ⟨fun q2 => ?_, fun q2 => ?_⟩
  case refine_2 =>
    have q2 : 30 < (n : Int) := q2
    rw [if_pos (show 30 < n by omega)]
    exact ⟨trivial, CS.rf _, rfl⟩
  have q2 : (n : Int) ≤ 30 := q2
  rw [if_neg (show ¬ 30 < n by omega)]
  refine tx_Tf_row 6 ?_
  have L : ∀ j, j ≤ n → ∀ (c : Int) (Z : XS) (l7 : Option V), c = (j : Int) → CS (up X.1 1 11 0, X.2) Z → TL (rwl X k i j) Z j → (∀ t, t < j → 0 ≤ X.1 46 (60 * k + i + t) ∧ X.1 46 (60 * k + i + t) < X.1 43 7) → Go w K_Tf_row 50 [some (.inr (.inr (6, 1))), some (.inl (k : Int)), some (.inl b), some (.inl (i : Int)), some (.inl (n : Int)), some (.inl 0), some (.inl c), l7] [] Z (fun z Y => CS (up X.1 1 11 0, X.2) Y ∧ z = if ∀ t, t < n → 0 ≤ X.1 46 (60 * k + i + t) ∧ X.1 46 (60 * k + i + t) < X.1 43 7 then ((bsN (RT X (rwl X k i n)).1 (nM X) : Nat) : Int) else -1) := by
    refine lp ?_
    intro j hj ih c Z l7 hc hC hT hA
    subst hc
    have hB0 : HB (DM X) (Z.2 0) Z := by
      rw [show Z.2 0 = X.2 0 from hC.2.1]
      exact (h.hb.sw S0).cs hC
    have hb2 := hB0.1
    have rs3 : Z.1 (3 + 2 * k) = X.1 (3 + 2 * k) := (hC.1 (3 + 2 * k) (by omega)).trans (up_ne (by omega))
    have rs4 : Z.1 (3 + 2 * k + 1) = X.1 (3 + 2 * k + 1) := (hC.1 (3 + 2 * k + 1) (by omega)).trans (up_ne (by omega))
    have hcnt : Z.1 (Z.2 0) 9 = X.1 43 7 := hB0.2.1.trans hn.1.symm
    have b0 : Z.2 0 ≠ 0 := by omega
    refine sx_Tf_row ?_
    refine ⟨fun p => ?_, fun p => ?_⟩
    · have p : (n : Int) ≤ (j : Int) := p
      have e : j = n := by omega
      subst e
      rw [if_pos hA]
      have A := c_trialG w hB0 (law := X.1 43 13) (by rw [hC.1 1 (by omega)]; show up X.1 1 11 0 1 9 = _; rw [up_row, u1_n (by omega)]; exact h.2.2.2.1.1) h.law hT (by
        unfold rwl
        exact stl_all (fun t ht => by
          have := hA t ht
          exact ⟨this.1, by show _ < (nM X : Int); rw [← hn.1]; exact this.2⟩))
      refine sx_Tf_row ?_
      refine ⟨b0, trivial, _, A, fun z Z4 hq => ?_⟩
      refine sx_Tf_row ?_
      exact ⟨trivial, hC.tr hq.1, hq.2⟩
    · have p : (j : Int) < (n : Int) := p
      have hjn : j < n := by omega
      have ew : True → ((i + j : Nat) : Int) = wr ((i : Int) + (j : Int)) := fun _ => by rw [wr_id (by omega) (by omega)]; omega
      have A := c_at w (X := Z) (k := k) (i := i + j) hk (by rw [rs3, a5]; omega) (by rw [rs3, a5]; exact a7)
      have ev : Z.1 (3 + 2 * k + 1) (i + j) = X.1 46 (60 * k + i + j) := by rw [rs4, a8 (i + j) (by omega)]; exact congrArg (X.1 46) (by omega)
      rw [ew trivial] at A
      clear ew
      refine ⟨(by omega), (by omega), trivial, _, A, fun z Z1 hq => ?_⟩
      obtain ⟨rfl, rfl⟩ := hq
      rw [ev]
      have B := c_has w Z1 (Z1.2 0) (X.1 46 (60 * k + i + j))
      rw [hcnt] at B
      refine sx_Tf_row ?_
      refine ⟨b0, trivial, _, B, fun z Z2 hq => ?_⟩
      obtain ⟨rfl, rfl⟩ := hq
      refine sx_Tf_row ?_
      refine ⟨fun p2 => ?_, fun p2 => ?_⟩
      · have p2 := pif p2
        refine sx_Tf_row ?_
        refine ⟨trivial, _, c_tadd w hT (show j < 30 by omega) (X.1 46 (60 * k + i + j)) (j : Int), fun _ Z3 hq => ?_⟩
        obtain ⟨g1, g2⟩ := hq
        refine sx_Tf_row ?_
        refine ih hjn _ _ _ (w1 rfl (by omega)) (hC.tr g1) ?_ (fun t ht => ?_)
        · unfold rwl
          rw [stl_app]
          exact g2
        · by_cases e : t = j
          · subst e; exact p2
          · exact hA t (by omega)
      · have p2 := nif p2
        rw [if_neg (fun z => p2 (z j hjn))]
        exact ⟨trivial, hC, rfl⟩
  exact L 0 (Nat.zero_le _) 0 _ none rfl (CS.up (CS.rf _) (by omega)) ⟨by decide, by simp [up_g], rfl⟩ (fun t ht => absurd ht (Nat.not_lt_zero t))
