theorem rm_ds {X Y : XS} (h : RM X Y) (d : Int) (c : Nat) : DS Y d c = DS X d c := by
  unfold DS nM
  rw [h 43 (by omega), h 47 (by omega), h 48 (by omega), h 49 (by omega), h 50 (by omega), h 51 (by omega)]
theorem rm_svn {X Y : XS} (h : RM X Y) (d : Int) (c : Nat) : svn Y d c = svn X d c := by
  unfold svn nM
  rw [rm_ds h, h.ss, h 43 (by omega)]
theorem rm_swb {X Y : XS} (h : RM X Y) (d : Int) : ∀ k, swb Y d k = swb X d k
  | 0 => rfl
  | k + 1 => by
    rw [swb_s, swb_s, rm_swb h d k, rm_svn h]
    unfold fre nM
    rw [h 43 (by omega), h 51 (by omega)]
theorem PAIR.askJ {w : WD} {c m : MI} {as : List V} (f : XS → Int) (hf : ∀ X Y, RM X Y → f Y = f X) (hc : ∀ X, J X → MS w c (.inr (.inr (6, 1)) :: as) X (fun z Y => (J Y ∧ RM X Y) ∧ z = f X)) (hm : ∀ X, J X → MS w m (.inr (.inr (7, 43)) :: as) X (fun z Y => J Y ∧ z = f X)) : PAIR w c m as := by
  intro X hJ
  refine ⟨_, hc X hJ, fun z Y hq => ?_⟩
  obtain ⟨⟨h1, h3⟩, h2⟩ := hq
  refine ⟨_, hm Y h1, fun z' Z hq' => ?_⟩
  obtain ⟨h5, h4⟩ := hq'
  exact ⟨by rw [h4, h2, hf X Y h3], h5⟩
theorem c_sow1 (w : WD) {X : XS} (h : J X) (d : Int) : MS w M_Tf_sow [.inr (.inr (6, 1)), .inl d] X (fun z Y => SWJ X Y ∧ z = a_sow d X) := by
  have hn := h.n
  have hal := h.all
  have hb := h.b2
  unfold a_sow
  refine mk_Tf_sow rfl ?_
  refine sx_Tf_sow ?_
  refine ⟨trivial, _, c_isBelow w X d 2, fun z Y hq => ?_⟩
  obtain ⟨rfl, rfl⟩ := hq
  refine sx_Tf_sow ?_
  refine ⟨fun q => ?_, fun q => ⟨trivial, SWJ.rf Y, by rw [if_neg (nif q)]⟩⟩
  rw [if_pos (pif q)]
  refine sx_Tf_sow ?_
  refine ⟨fun q2 => ?_, fun q2 => ?_⟩
  case refine_2 =>
    have q2 : Y.1 1 8 = 0 := q2
    rw [if_pos (show Y.1 43 5 * Y.1 43 6 = 0 by omega)]
    exact ⟨trivial, SWJ.rf Y, rfl⟩
  have q2 : Y.1 1 8 ≠ 0 := q2
  rw [if_neg (show ¬ Y.1 43 5 * Y.1 43 6 = 0 by omega)]
  refine tx_Tf_sow 6 ?_
  have L : ∀ j, j ≤ (Y.1 43 5 * Y.1 43 6).toNat → ∀ (c : Int) (Z : XS) (y : Option V), c = (j : Int) → SWJ Y Z → Go w K_Tf_sow 30 [some (.inr (.inr (6, 1))), some (.inl d), some (.inl (swb Y d j).1), some (.inl (swb Y d j).2), some (.inl c), y] [] Z (fun z Z => SWJ Y Z ∧ z = (swb Y d (Y.1 43 5 * Y.1 43 6).toNat).1) := by
    refine lp ?_
    intro j hj ih c Z y hc hC
    subst hc
    have hJ := h.swj hC
    have hR := hC.rm hb
    have hc8 : Z.1 (Z.2 0) 8 = Y.1 43 5 * Y.1 43 6 := by rw [hJ.all.2.2.1, hR 43 (by omega)]
    refine sx_Tf_sow ?_
    refine ⟨hJ.b0, fun q => ?_, fun q => ?_⟩
    · have q : Z.1 (Z.2 0) 8 ≤ (j : Int) := q
      have e : j = (Y.1 43 5 * Y.1 43 6).toNat := by omega
      refine sx_Tf_sow ?_
      exact ⟨trivial, hC, by rw [e]⟩
    · have q : (j : Int) < Z.1 (Z.2 0) 8 := q
      have hjn : j < (Y.1 43 5 * Y.1 43 6).toNat := by omega
      have hjc : (j : Int) < Z.1 43 5 * Z.1 43 6 := by rw [hR 43 (by omega)]; omega
      have hm7 := hJ.2.2.1.2.2.2.2.2.2 j hjc
      have hfe : fre Z j ↔ fre Y j := by unfold fre nM; rw [hR 43 (by omega), hR 51 (by omega)]
      have NX : ∀ (p : Int × Int) (Z1 : XS) (y : Option V), SWJ Y Z1 → p = swb Y d (j + 1) → Go w K_Tf_sow 78 [some (.inr (.inr (6, 1))), some (.inl d), some (.inl p.1), some (.inl p.2), some (.inl (j : Int)), y] [] Z1 (fun z Z => SWJ Y Z ∧ z = (swb Y d (Y.1 43 5 * Y.1 43 6).toNat).1) := by
        intro p Z1 y g hp
        subst hp
        refine sx_Tf_sow ?_
        exact ih hjn _ _ _ (w1 rfl (by omega)) g
      refine ⟨hJ.b0, (by omega), (by show _ < ((20 : Nat) : Int); omega), fun q3 => ?_, fun q3 => ?_⟩
      · have q3 : Z.1 (Z.2 0 + 7) j ≠ -9 := q3
        rw [hm7] at q3
        exact NX (swb Y d j) Z y hC (by rw [swb_s, if_neg (fun z => q3 (hfe.mpr z.1))])
      · have q3 : Z.1 (Z.2 0 + 7) j = -9 := q3
        rw [hm7] at q3
        refine ⟨trivial, _, c_olws w hJ hjc q3 (d := d), fun z Z1 hq => ?_⟩
        obtain ⟨g1, rfl⟩ := hq
        have g1 := hC.tr hb g1
        rw [rm_svn hR]
        refine tx_Tf_sow 4 ?_
        refine ⟨fun q4 => ?_, fun q4 => ?_⟩
        · exact NX (swb Y d j) Z1 _ g1 (by rw [swb_s, if_neg (fun z => absurd z.2 (Int.not_lt.mpr q4))])
        · refine tx_Tf_sow 4 ?_
          exact NX ((j : Int), (svn Y d j : Int)) Z1 _ g1 (by rw [swb_s, if_pos ⟨hfe.mp q3, q4⟩])
  exact L 0 (Nat.zero_le _) 0 Y none rfl (SWJ.rf Y)
/-! the reference -/
def SMJ (X Y : XS) : Prop := (∀ i, i < 47 ∨ (51 < i ∧ i < 55) ∨ 59 < i → Y.1 i = X.1 i) ∧ Y.2 = X.2 ∧ ∀ m, m ≠ nM X → Y.1 47 m = X.1 47 m ∧ Y.1 48 m = X.1 48 m ∧ Y.1 49 m = X.1 49 m ∧ Y.1 50 m = X.1 50 m ∧ Y.1 51 m = X.1 51 m
theorem SMJ.rf (X : XS) : SMJ X X := ⟨fun _ _ => rfl, rfl, fun _ _ => ⟨rfl, rfl, rfl, rfl, rfl⟩⟩
theorem J.smj {X Y : XS} (h : J X) (g : SMJ X Y) : J Y := by
  have hb := h.b2
  obtain ⟨h1, h2, h3, h4, h5, h6, h7⟩ := h
  obtain ⟨g1, g2, g3⟩ := g
  have r43 := g1 43 (by omega)
  refine ⟨JS.cg h1 (fun i hi => g1 i (by omega)), by unfold JR; rw [g2]; exact h2, ?_, JL.cg h4 (by rw [g1 1 (by omega)]) (by rw [r43]), JT.cg h5 (fun i hi => g1 i (by omega)) (by rw [r43]) (by rw [r43]), JD.cg h6 (fun i hi => g1 i (by omega)) (by rw [r43]) (by rw [r43]), ?_⟩
  · obtain ⟨q1, q2, q3, q4, q5, q6, q7⟩ := h3
    have g3' : ∀ m, m < nM X → Y.1 47 m = X.1 47 m ∧ Y.1 48 m = X.1 48 m ∧ Y.1 49 m = X.1 49 m ∧ Y.1 50 m = X.1 50 m ∧ Y.1 51 m = X.1 51 m := fun m hm => g3 m (by omega)
    unfold JF nM
    rw [g2, r43, g1 1 (by omega), g1 (X.2 0) (by omega), g1 (X.2 0 + 1) (by omega), g1 (X.2 0 + 2) (by omega), g1 (X.2 0 + 3) (by omega), g1 (X.2 0 + 4) (by omega), g1 (X.2 0 + 5) (by omega), g1 (X.2 0 + 6) (by omega), g1 (X.2 0 + 7) (by omega)]
    refine ⟨q1, q2, q3, fun m hm => ?_, fun m hm => ?_, fun m o hm ho => ?_, fun c hc => ?_⟩
    · obtain ⟨a1, a2, a3, a4, a5⟩ := g3' m hm
      rw [a1, a2, a3, a4, a5]; exact q4 m hm
    · obtain ⟨a1, a2, a3, a4, a5⟩ := g3' m hm
      rw [a1, a2, a3, a4, a5]; exact q5 m hm
    · rw [(g3' m hm).2.2.2.2, (g3' o ho).2.2.2.2]; exact q6 m o hm ho
    · rw [q7 c hc]
      exact fn1_congr (fun x _ hx => by rw [(g3' x (by omega)).2.2.2.2])
  · unfold JX; rw [r43, g1 1 (by omega)]; exact h7
