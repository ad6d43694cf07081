/-! ===== the class's fight, on ===== -/
theorem c_nearest (w : WD) {D : FD} {X : XS} {F : FS} (hD : HB D (X.2 3) X) (hF : FC D F X) {m : Nat} (hm : m < dn D) (b : Bool) : MS w M_Fi_nearest [.inr (.inr (0, 12)), .inl (m : Int), .inl (bi b)] X (fun z Y => Y = X ∧ z = nrs D F.1 m b (dn D)) := by
  have h9 := hD.n9
  have hn : X.1 (X.2 3) 9 = (dn D : Int) := hD.2.1
  have hne := hD.ne
  have hrk : rch (dk D m) = 1 ∨ rch (dk D m) = 3 := by unfold rch; split <;> simp
  refine mk_Fi_nearest rfl ?_
  refine tx_Fi_nearest 6 ?_
  refine ⟨hne, trivial, _, c_reach w hD hm, fun z Y hq => ?_⟩
  obtain ⟨rfl, rfl⟩ := hq
  refine tx_Fi_nearest 5 ?_
  have L : ∀ j, j ≤ dn D → ∀ (c best bf : Int) (y : Option V), c = (j : Int) → best = nrs D F.1 m b j → bf = (if nrs D F.1 m b j = -9 then rch (dk D m) + 1 else df D m (nrs D F.1 m b j).toNat) → Go w K_Fi_nearest 18 [some (.inr (.inr (0, 12))), some (.inl (m : Int)), some (.inl (bi b)), some (.inl best), some (.inl bf), some (.inl c), y] [] Y (fun z Y' => Y' = Y ∧ z = nrs D F.1 m b (dn D)) := by
    refine lp ?_
    intro j hj ih c best bf y hc hb hbf
    subst hc
    refine sx_Fi_nearest ?_
    refine ⟨hne, fun h => ?_, fun h => ?_⟩
    · have e : j = dn D := by omega
      subst e
      refine sx_Fi_nearest ?_
      exact ⟨trivial, rfl, hb⟩
    · have hjn : j < dn D := by omega
      have hdj : Y.1 (Y.2 3 + 2) j = dd D j := (hD.2.2.2.1 j hjn).2.1
      have hdm : Y.1 (Y.2 3 + 2) m = dd D m := (hD.2.2.2.1 m hm).2.1
      have hrc := nrs_rch D F.1 m b j
      have NX : ∀ (best' bf' : Int) (y' : V), best' = nrs D F.1 m b (j + 1) → bf' = (if nrs D F.1 m b (j + 1) = -9 then rch (dk D m) + 1 else df D m (nrs D F.1 m b (j + 1)).toNat) → Go w K_Fi_nearest 116 [some (.inr (.inr (0, 12))), some (.inl (m : Int)), some (.inl (bi b)), some (.inl best'), some (.inl bf'), some (.inl (j : Int)), some y'] [] Y (fun z Y' => Y' = Y ∧ z = nrs D F.1 m b (dn D)) := by
        intro best' bf' y' h1 h2
        refine sx_Fi_nearest ?_
        exact ih hjn _ _ _ _ (w1 rfl (by omega)) h1 h2
      have NO : ∀ y' : V, ¬ (may D F.1 m j b ∧ (nrs D F.1 m b j = -9 ∨ df D m j < df D m (nrs D F.1 m b j).toNat)) → Go w K_Fi_nearest 116 [some (.inr (.inr (0, 12))), some (.inl (m : Int)), some (.inl (bi b)), some (.inl best), some (.inl bf), some (.inl (j : Int)), some y'] [] Y (fun z Y' => Y' = Y ∧ z = nrs D F.1 m b (dn D)) := by
        intro y' hno
        exact NX _ _ _ (by rw [nrs_s, if_neg hno]; exact hb) (by rw [nrs_s, if_neg hno]; exact hbf)
      -- behind 'meant'
      have MID : ∀ (g : Int), (g = 1 ∧ (b = false ∨ dd D j ≠ dd D m)) ∨ (g = 0 ∧ ¬ (b = false ∨ dd D j ≠ dd D m)) → Go w K_Fi_nearest 61 [some (.inr (.inr (0, 12))), some (.inl (m : Int)), some (.inl (bi b)), some (.inl best), some (.inl bf), some (.inl (j : Int)), y] [.inl g] Y (fun z Y' => Y' = Y ∧ z = nrs D F.1 m b (dn D)) := by
        intro g hg
        have A := c_isIn w Y (bs512 (u := F.1) h9) (show j < 9 by omega)
        rw [← hF.1, bsN_bit] at A
        refine sx_Fi_nearest ?_
        refine ⟨fun h1 => ?_, fun h1 => ⟨fun h2 => ?_, fun h2 => ?_⟩⟩
        · exact NO _ (fun q => q.1.1 (by omega))
        · exact NO _ (fun q => by
            rcases hg with ⟨hg, -⟩ | ⟨-, hg⟩
            · omega
            · exact hg q.1.2.2.2)
        · have hmt : b = false ∨ dd D j ≠ dd D m := by
            rcases hg with ⟨-, hg⟩ | ⟨hg, -⟩
            · exact hg
            · exact absurd hg h2
          refine ⟨trivial, _, A, fun z Y' hq => ?_⟩
          obtain ⟨rfl, rfl⟩ := hq
          refine sx_Fi_nearest ?_
          refine ⟨fun h3 => ?_, fun h3 => ?_⟩
          · exact NO _ (fun q => by rw [if_pos (by simp [hjn, q.1.2.1])] at h3; cases h3)
          · have huj : F.1 j = 1 := Decidable.byContradiction (fun q => h3 (by rw [if_neg (by simp [q])]))
            refine ⟨hne, trivial, _, c_between w hD hm hjn, fun z Y'' hq => ?_⟩
            obtain ⟨rfl, rfl⟩ := hq
            refine sx_Fi_nearest ?_
            refine ⟨fun h4 => ?_, fun h4 => ?_⟩
            · exact NO _ (fun q => by
                rw [hbf] at h4
                have hq2 := q.1.2.2.1
                by_cases e : nrs D F.1 m b j = -9
                · rw [if_pos e] at h4; omega
                · rw [if_neg e] at h4
                  rcases q.2 with q2 | q2
                  · exact e q2
                  · omega)
            · have hyes : may D F.1 m j b ∧ (nrs D F.1 m b j = -9 ∨ df D m j < df D m (nrs D F.1 m b j).toNat) := by
                rw [hbf] at h4
                by_cases e : nrs D F.1 m b j = -9
                · rw [if_pos e] at h4
                  exact ⟨⟨by omega, huj, by omega, hmt⟩, Or.inl e⟩
                · rw [if_neg e] at h4
                  have := hrc e
                  exact ⟨⟨by omega, huj, by omega, hmt⟩, Or.inr h4⟩
              refine ⟨hne, trivial, _, c_between w hD hm hjn, fun z Y3 hq => ?_⟩
              obtain ⟨rfl, rfl⟩ := hq
              refine tx_Fi_nearest 1 ?_
              refine NX _ _ _ ?_ ?_
              · rw [nrs_s, if_pos hyes]
              · rw [nrs_s, if_pos hyes, if_neg (by omega)]; rfl
      refine ⟨fun h1 => ?_, fun h1 => ⟨hne, (by omega), (by show _ < ((9 : Nat) : Int); omega), hne, (by omega), (by show _ < ((9 : Nat) : Int); omega), fun h2 => ?_, fun h2 => ?_⟩⟩
      · refine sx_Fi_nearest ?_
        have hb0 : b = false := by cases b
                                   · rfl
                                   · exact absurd h1 (by decide)
        exact MID 1 (Or.inl ⟨rfl, Or.inl hb0⟩)
      · have h2 : Y.1 (Y.2 3 + 2) j = Y.1 (Y.2 3 + 2) m := h2
        have hb1 : b = true := by cases b
                                  · exact absurd rfl h1
                                  · rfl
        refine tx_Fi_nearest 1 ?_
        exact MID 0 (Or.inr ⟨rfl, fun q => by
          rcases q with q | q
          · rw [hb1] at q; cases q
          · omega⟩)
      · have h2 : Y.1 (Y.2 3 + 2) j ≠ Y.1 (Y.2 3 + 2) m := h2
        exact MID 1 (Or.inl ⟨rfl, Or.inr (by omega)⟩)
  refine L 0 (Nat.zero_le _) 0 _ _ _ rfl rfl ?_
  show wr (rch (dk D m) + 1) = if (-9 : Int) = -9 then _ else _
  rw [if_pos rfl, wr_id (by omega) (by omega)]
theorem c_foeByLaw (w : WD) {D : FD} {X : XS} {F : FS} {law : Int} (hD : HB D (X.2 3) X) (hF : FC D F X) (hl : X.1 12 5 = law) (hl2 : law = 0 ∨ law = 1 ∨ law = 2) {m : Nat} (hm : m < dn D) : MS w M_Fi_foeByLaw [.inr (.inr (0, 12)), .inl (m : Int)] X (fun z Y => Y = X ∧ z = wkf D law F.1 m) := by
  have E : ∀ z : Int, z = wkf D law F.1 m → Go w K_Fi_foeByLaw 38 [some (.inr (.inr (0, 12))), some (.inl (m : Int)), some (.inl z)] [] X (fun z Y => Y = X ∧ z = wkf D law F.1 m) := by
    intro z hz
    refine sx_Fi_foeByLaw ?_
    exact ⟨trivial, rfl, hz⟩
  have M : ∀ z : Int, (law = 0 ∧ z = -9) ∨ (law ≠ 0 ∧ z = nrs D F.1 m true (dn D)) → Go w K_Fi_foeByLaw 17 [some (.inr (.inr (0, 12))), some (.inl (m : Int)), some (.inl z)] [] X (fun z Y => Y = X ∧ z = wkf D law F.1 m) := by
    intro z hz
    refine sx_Fi_foeByLaw ?_
    refine ⟨fun h1 => ?_, fun h1 => ⟨fun h2 => ?_, fun h2 => ?_⟩⟩
    · refine E _ ?_
      rcases hz with ⟨-, hz⟩ | ⟨h0, hz⟩
      · exact absurd hz h1
      · unfold wkf
        rw [decide_eq_true h0, if_neg (fun q => h1 (hz.trans q.1))]
        exact hz
    · have h2 : X.1 12 5 = 1 := h2
      refine E _ ?_
      rcases hz with ⟨h0, -⟩ | ⟨h0, hz⟩
      · omega
      · unfold wkf
        rw [decide_eq_true h0, if_neg (fun q => by omega)]
        exact hz
    · have h2 : X.1 12 5 ≠ 1 := h2
      have A := c_nearest w hD hF hm false
      refine ⟨trivial, _, A, fun z Y hq => ?_⟩
      obtain ⟨rfl, rfl⟩ := hq
      refine tx_Fi_foeByLaw 1 ?_
      refine E _ ?_
      unfold wkf
      rcases hz with ⟨h0, -⟩ | ⟨h0, hz⟩
      · rw [decide_eq_false (fun q => q h0), if_neg (fun q => by omega)]
      · rw [decide_eq_true h0, if_pos ⟨hz.symm.trans h1, by omega⟩]
  refine mk_Fi_foeByLaw rfl ?_
  refine tx_Fi_foeByLaw 8 ?_
  refine ⟨fun h => ?_, fun h => ?_⟩
  · have h : X.1 12 5 = 0 := h
    exact M _ (Or.inl ⟨hl.symm.trans h, rfl⟩)
  · have h : X.1 12 5 ≠ 0 := h
    have A := c_nearest w hD hF hm true
    refine sx_Fi_foeByLaw ?_
    refine ⟨trivial, _, A, fun z Y hq => ?_⟩
    obtain ⟨rfl, rfl⟩ := hq
    refine tx_Fi_foeByLaw 1 ?_
    exact M _ (Or.inr ⟨by omega, rfl⟩)
/-- the stones of a row of stones -/
def SC (D : FD) (t : Nat) (X : XS) (S : List (Int × Int)) : Prop := (t = 17 ∨ t = 20) ∧ ∃ ns : Nat, ns ≤ 30 ∧ ns ≤ len (t + 1) ∧ ns ≤ len (t + 2) ∧ X.1 t 2 = (ns : Int) ∧ (∀ k, k < ns → 0 ≤ X.1 (t + 1) k ∧ X.1 (t + 1) k < (dn D : Int)) ∧ S = stl (X.1 (t + 1)) (X.1 (t + 2)) 0 ns
theorem SC.fr {D : FD} {t : Nat} {X Y : XS} {S : List (Int × Int)} (h : SC D t X S) (g : ∀ i, i < 12 ∨ 16 < i → Y.1 i = X.1 i) : SC D t Y S := by
  unfold SC
  obtain ⟨h0, h⟩ := h
  rw [g t (by omega), g (t + 1) (by omega), g (t + 2) (by omega)]
  exact ⟨h0, h⟩
theorem c_stones (w : WD) {D : FD} {X : XS} {F : FS} {S : List (Int × Int)} {law mn : Int} {t : Nat} (hD : HB D (X.2 3) X) (hF : FC D F X) (hW : WF D F) (hl : X.1 12 5 = law) (hl2 : law = 0 ∨ law = 1 ∨ law = 2) (hS : SC D t X S) : MS w M_Fi_turnByStones [.inr (.inr (0, 12)), .inr (.inr (4, t)), .inl mn] X (fun _ Y => CFr X Y ∧ FC D (mst1 D law S mn F) Y) := by
  have h9 := hD.n9
  obtain ⟨ht, ns, n30, n1, n2, s1, s2, s3⟩ := hS
  refine mk_Fi_turnByStones rfl ?_
  refine tx_Fi_turnByStones 2 ?_
  have L : ∀ j, j ≤ ns → ∀ (c : Int) (Y : XS) (y : Option V), c = (j : Int) → CFr X Y → FC D (F.1, wkL D law F.1 mn (stl (X.1 (t + 1)) (X.1 (t + 2)) 0 j) F.2.1, F.2.2.1, F.2.2.2) Y → Go w K_Fi_turnByStones 2 [some (.inr (.inr (0, 12))), some (.inr (.inr (4, t))), some (.inl mn), some (.inl c), y] [] Y (fun _ Y => CFr X Y ∧ FC D (mst1 D law S mn F) Y) := by
    refine lp ?_
    intro j hj ih c Y y hc hM hF
    subst hc
    have hD' := hD.cf hM
    have hne := hD'.ne
    have r0 := hM.2.1 t (by omega)
    have r1 := hM.2.1 (t + 1) (by omega)
    have r2 := hM.2.1 (t + 2) (by omega)
    have hns : Y.1 t 2 = (ns : Int) := by rw [r0]; exact s1
    refine sx_Fi_turnByStones ?_
    refine ⟨fun h3 => ?_, fun h3 => ?_⟩
    · have e : j = ns := by omega
      subst e
      refine sx_Fi_turnByStones ?_
      rw [← s3] at hF
      exact ⟨hM, hF⟩
    · have hjn : j < ns := by omega
      obtain ⟨o1, o2⟩ := s2 j hjn
      have NX : ∀ (Y' : XS) (y' : V), CFr X Y' → FC D (F.1, wkL D law F.1 mn (stl (X.1 (t + 1)) (X.1 (t + 2)) 0 (j + 1)) F.2.1, F.2.2.1, F.2.2.2) Y' → Go w K_Fi_turnByStones 62 [some (.inr (.inr (0, 12))), some (.inr (.inr (4, t))), some (.inl mn), some (.inl (j : Int)), some y'] [] Y' (fun _ Y => CFr X Y ∧ FC D (mst1 D law S mn F) Y) := by
        intro Y' y' hM' hF'
        refine sx_Fi_turnByStones ?_
        exact ih hjn _ _ _ (w1 rfl (by omega)) hM' hF'
      have hst : stl (X.1 (t + 1)) (X.1 (t + 2)) 0 (j + 1) = stl (X.1 (t + 1)) (X.1 (t + 2)) 0 j ++ [(X.1 (t + 1) j, X.1 (t + 2) j)] := by rw [stl_s, if_neg (by simp)]
      have hSAME : ∀ foe : Nat → Int, FC D (F.1, foe, F.2.2.1, F.2.2.2) Y → ∀ foe' : Nat → Int, foe' = foe → FC D (F.1, foe', F.2.2.1, F.2.2.2) Y := fun foe h foe' e => by rw [e]; exact h
      have q1 : Y.1 (t + 1) j = X.1 (t + 1) j := by rw [r1]
      have q2 : Y.1 (t + 2) j = X.1 (t + 2) j := by rw [r2]
      generalize hG : wkL D law F.1 mn (stl (X.1 (t + 1)) (X.1 (t + 2)) 0 j) F.2.1 = foe at hF
      have hwk : wkL D law F.1 mn (stl (X.1 (t + 1)) (X.1 (t + 2)) 0 (j + 1)) F.2.1 = if X.1 (t + 2) j = mn then wake D law F.1 foe (X.1 (t + 1) j).toNat else foe := by rw [hst, wkL_app, hG]; rfl
      rw [hwk] at NX
      refine ⟨(by omega), by show _ < ((len (t + 1) : Nat) : Int); omega, (by omega), by show _ < ((len (t + 2) : Nat) : Int); omega, fun h4 => ?_, fun h4 => ?_⟩
      · have h4x : Y.1 (t + 2) j ≠ mn := h4
        refine NX Y _ hM (hSAME _ hF _ ?_)
        rw [if_neg (by omega)]
      · have h4x : Y.1 (t + 2) j = mn := h4
        have hmn : X.1 (t + 2) j = mn := by omega
        rw [if_pos hmn] at NX
        have A := c_isFree w h9 hF (m := (Y.1 (t + 1) j).toNat) (by omega)
        have B := c_foeByLaw w hD' hF (law := law) (by rw [hM.2.2]; exact hl) hl2 (m := (Y.1 (t + 1) j).toNat) (by omega)
        rw [Int.toNat_of_nonneg (by omega)] at A B
        dsimp only at A B
        have H := c_has w Y (Y.2 3) (Y.1 (t + 1) j)
        rw [if_pos ⟨by omega, by rw [hD'.2.1]; omega⟩] at H
        refine ⟨hne, trivial, _, H, fun z Y1 hq => ?_⟩
        obtain ⟨rfl, rfl⟩ := hq
        refine sx_Fi_turnByStones ?_
        refine ⟨fun h5 => absurd h5 (by decide), fun h5 => ?_⟩
        refine ⟨trivial, _, A, fun z Y2 hq => ?_⟩
        obtain ⟨rfl, rfl⟩ := hq
        refine sx_Fi_turnByStones ?_
        refine ⟨fun h6 => ?_, fun h6 => ?_⟩
        · refine NX Y2 _ hM (hSAME _ hF _ ?_)
          unfold wake
          rw [if_neg (fun q => by rw [q1, if_pos q] at h6; cases h6)]
        · have hfree : F.1 (X.1 (t + 1) j).toNat = 1 ∧ foe (X.1 (t + 1) j).toNat = -9 := Decidable.byContradiction (fun q => h6 (by rw [q1]; exact if_neg q))
          refine ⟨trivial, _, B, fun z Y3 hq => ?_⟩
          obtain ⟨rfl, rfl⟩ := hq
          refine tx_Fi_turnByStones 1 ?_
          refine ⟨by show 0 ≤ Y3.1 (t + 1) j; omega, by show Y3.1 (t + 1) j < ((9 : Nat) : Int); omega, ?_⟩
          refine NX _ _ (hM.pt (by omega) (by omega)) ?_
          unfold wake
          rw [if_pos hfree]
          refine ⟨?_, fun q hq => ?_⟩
          · simp [up_g]
            exact hF.1
          · have := hF.2 q hq
            dsimp only at this ⊢
            simp only [up_g, Int.toNat_natCast, q1]
            by_cases e : q = (X.1 (t + 1) j).toNat
            · simp [e, u1]
              rw [e] at this
              exact this.2
            · simp [e, u1, this]
  exact L 0 (Nat.zero_le _) 0 X _ rfl (CFr.rf X) hF
