theorem ix61 {k i : Nat} (hk : k < 4) (hi : i ≤ 60) : wr (wr (60 * (k : Int)) + (i : Int)) = ((60 * k + i : Nat) : Int) := by
  rw [wr_id (z := 60 * (k : Int)) (by omega) (by omega), wr_id (by omega) (by omega)]; omega
theorem mo_row5 (w : WD) {X : XS} (h : J X) {k i n : Nat} {b : Int} (hk : k < 4) (hb : 0 ≤ b ∧ b < 3) (hf : fof X k b (i : Int) (n : Int) = 0) : Go w K_Mo_row 5 [some (.inr (.inr (7, 43))), some (.inl (k : Int)), some (.inl b), some (.inl (i : Int)), some (.inl (n : Int)), none, none, none] [] X (fun z Z => ME X Z ∧ z = rv X k i n) := by
  have hn := h.n
  obtain ⟨⟨l1, l2⟩, f1, ⟨f2, f3⟩, f4⟩ := fof_0 hf
  obtain ⟨a1, a2, a3, a4, a5, a6, a7, a8⟩ := (h.1 k hk).resolve_left (fun z => l1 z.2)
  refine sx_Mo_row ?_
  refine ⟨trivial, _, mo_isSheet w _ (k : Int), fun z Z hq => ?_⟩
  obtain ⟨rfl, rfl⟩ := hq
  refine sx_Mo_row ?_
  refine ⟨fun _ => ?_, fun q => absurd (show 0 ≤ (k : Int) ∧ (k : Int) ≤ 3 by omega) (nif q)⟩
  refine sx_Mo_row ?_
  refine ⟨trivial, _, mo_isSort w _ b, fun z Z1 hq => ?_⟩
  obtain ⟨rfl, rfl⟩ := hq
  refine sx_Mo_row ?_
  refine ⟨fun _ => ?_, fun q => absurd (show 0 ≤ b ∧ b ≤ 2 by omega) (nif q)⟩
  refine sx_Mo_row ?_
  refine ⟨trivial, _, mo_against w h rfl rfl hk b (i : Int) (n : Int), fun z Z hq => ?_⟩
  obtain ⟨rfl, rfl⟩ := hq
  rw [hf]
  refine sx_Mo_row ?_
  refine ⟨fun _ => ?_, fun q => absurd rfl q⟩
  unfold rv
  refine sx_Mo_row ?_
  refine ⟨trivial, _, mo_all w h, fun z Y2 hq => ?_⟩
  obtain ⟨rfl, rfl⟩ := hq
  refine sx_Mo_row ?_
  refine ⟨fun q => ?_, fun q => ⟨trivial, ME.rf Y2, by rw [if_pos q]⟩⟩
  rw [if_neg q]
  refine sx_Mo_row ?_
  refine ⟨fun q2 => ?_, fun q2 => ?_⟩
  case refine_2 =>
    have q2 : 30 < (n : Int) := q2
    rw [if_pos (show 30 < n by omega)]
    exact ⟨trivial, ME.rf _, rfl⟩
  have q2 : (n : Int) ≤ 30 := q2
  rw [if_neg (show ¬ 30 < n by omega)]
  refine tx_Mo_row 8 ?_
  have L : ∀ (v : Int), v = ((60 * k + i : Nat) : Int) → ∀ j, j ≤ n → ∀ (c : Int), c = (j : Int) → (∀ t, t < j → 0 ≤ Y2.1 46 (60 * k + i + t) ∧ Y2.1 46 (60 * k + i + t) < Y2.1 43 7) → Go w K_Mo_row 78 [some (.inr (.inr (7, 43))), some (.inl (k : Int)), some (.inl b), some (.inl (i : Int)), some (.inl (n : Int)), some (.inl 0), some (.inl v), some (.inl c)] [] Y2 (fun z Z => ME Y2 Z ∧ z = if ∀ t, t < n → 0 ≤ Y2.1 46 (60 * k + i + t) ∧ Y2.1 46 (60 * k + i + t) < Y2.1 43 7 then ((bsN (RT Y2 (rwl Y2 k i n)).1 (nM Y2) : Nat) : Int) else -1) := by
    intro v hv
    subst hv
    refine lp ?_
    intro j hj ih c hc hA
    subst hc
    refine sx_Mo_row ?_
    refine ⟨fun p => ?_, fun p => ?_⟩
    · have p : (n : Int) ≤ (j : Int) := p
      have e : j = n := by omega
      subst e
      rw [if_pos hA]
      refine sx_Mo_row ?_
      refine ⟨trivial, _, mo_lbr w h hk (by omega) (by omega) hA, fun z Z hq => ?_⟩
      refine sx_Mo_row ?_
      exact ⟨trivial, hq⟩
    · have p : (j : Int) < (n : Int) := p
      have hjn : j < n := by omega
      have ew : True → wr (((60 * k + i : Nat) : Int) + (j : Int)) = ((60 * k + i + j : Nat) : Int) := fun _ => by rw [wr_id (by omega) (by omega)]; omega
      have b1 : True → 0 ≤ wr (((60 * k + i : Nat) : Int) + (j : Int)) ∧ wr (((60 * k + i : Nat) : Int) + (j : Int)) < ((240 : Nat) : Int) := fun _ => by rw [wr_id (by omega) (by omega)]; omega
      have ev : True → Y2.1 46 (wr (((60 * k + i : Nat) : Int) + (j : Int))).toNat = Y2.1 46 (60 * k + i + j) := fun _ => by rw [ew trivial, Int.toNat_natCast]
      have A := mo_isMan w Y2 (Y2.1 46 (60 * k + i + j))
      rw [← ev trivial] at A
      refine ⟨(b1 trivial).1, (b1 trivial).2, trivial, _, A, fun z Z1 hq => ?_⟩
      rw [ev trivial] at hq
      clear ew b1 ev A
      obtain ⟨rfl, rfl⟩ := hq
      refine sx_Mo_row ?_
      refine ⟨fun p2 => ?_, fun p2 => ?_⟩
      · have p2 := pif p2
        refine sx_Mo_row ?_
        refine ih hjn _ (w1 rfl (by omega)) (fun t ht => ?_)
        by_cases e : t = j
        · subst e; exact p2
        · exact hA t (by omega)
      · have p2 := nif p2
        rw [if_neg (fun z => p2 (z j hjn))]
        exact ⟨trivial, ME.rf _, rfl⟩
  refine L _ ?_ 0 (Nat.zero_le _) 0 rfl (fun t ht => absurd ht (Nat.not_lt_zero t))
  exact ix61 hk (by omega)
theorem rf_fof {X Y : XS} (g : RF X Y) (k : Nat) (b i n : Int) : fof Y k b i n = fof X k b i n := by
  unfold fof
  rw [g.1 44 (by omega), g.1 45 (by omega)]
theorem p_row (w : WD) (a b i n : Int) : PAIR w M_Tf_row M_Mo_row [.inl a, .inl b, .inl i, .inl n] := by
  intro X h
  by_cases hw : wz X a b i n = 0
  · have h1 : 0 ≤ a ∧ a < 4 := Decidable.byContradiction (fun z => by unfold wz at hw; rw [if_neg z] at hw; cases hw)
    have hb : 0 ≤ b ∧ b < 3 := Decidable.byContradiction (fun z => by unfold wz at hw; rw [if_pos h1, if_neg z] at hw; cases hw)
    obtain ⟨k, rfl⟩ := Int.eq_ofNat_of_zero_le h1.1
    have hk : k < 4 := by omega
    have hr := fof_rng X k b i n
    have hf : fof X k b i n = 0 := Decidable.byContradiction (fun z => by unfold wz at hw; rw [if_pos h1, if_pos hb, Int.toNat_natCast, if_neg z] at hw; omega)
    obtain ⟨-, f1, ⟨f2, -⟩, -⟩ := fof_0 hf
    obtain ⟨i, rfl⟩ := Int.eq_ofNat_of_zero_le f2
    obtain ⟨n, rfl⟩ := Int.eq_ofNat_of_zero_le f1
    refine ⟨_, c_row1 w h hk hb hf, fun z Y hq => ?_⟩
    obtain ⟨g1, rfl⟩ := hq
    have hJ := h.ff g1
    have hR := rf_ff g1
    refine ⟨_, mk_Mo_row rfl (tx_Mo_row 3 (mo_row5 w hJ hk hb (by rw [rf_fof hR]; exact hf))), fun z' Z hq => ?_⟩
    obtain ⟨g2, rfl⟩ := hq
    exact ⟨rf_rv hR k i n, hJ.me g2⟩
  · refine PAIR.flt1 (r := wz X a b i n) (t := wf X a b i n) h ?_ (fun Y g => mo_rowF w h g hw)
    refine mk_Tf_row rfl ?_
    refine sx_Tf_row ?_
    refine ⟨trivial, _, c_wc w h a b i n, fun z Y hq => ?_⟩
    obtain ⟨rfl, rfl⟩ := hq
    refine sx_Tf_row ?_
    exact ⟨fun q => absurd q hw, fun _ => ⟨trivial, (SW.one 1 11 X 0).tr (SW.one 1 11 _ _), rfl⟩⟩
