/-! ===== the class's fight, its minutes ===== -/
theorem c_someone (w : WD) {D : FD} {X : XS} {F : FS} (hD : HB D (X.2 3) X) (hF : FC D F X) : MS w M_Fi_someoneFights [.inr (.inr (0, 12))] X (fun z Y => Y = X ∧ ((z = 1) ∨ (z = 0 ∧ ∀ m, m < dn D → F.2.1 m = -9))) := by
  have h9 := hD.n9
  have hn : X.1 (X.2 3) 9 = (dn D : Int) := hD.2.1
  have hne := hD.ne
  refine mk_Fi_someoneFights rfl ?_
  refine tx_Fi_someoneFights 2 ?_
  have L : ∀ j, j ≤ dn D → ∀ (c : Int), c = (j : Int) → (∀ m, m < j → F.2.1 m = -9) → Go w K_Fi_someoneFights 2 [some (.inr (.inr (0, 12))), some (.inl c)] [] X (fun z Y => Y = X ∧ ((z = 1) ∨ (z = 0 ∧ ∀ m, m < dn D → F.2.1 m = -9))) := by
    refine lp ?_
    intro j hj ih c hc hI
    subst hc
    refine sx_Fi_someoneFights ?_
    refine ⟨hne, fun h => ?_, fun h => ?_⟩
    · have e : j = dn D := by omega
      subst e
      refine sx_Fi_someoneFights ?_
      exact ⟨Or.inl rfl, rfl, Or.inr ⟨rfl, hI⟩⟩
    · have hjn : j < dn D := by omega
      have hf := (hF.2 j hjn).1
      refine ⟨(by omega), (by show _ < ((9 : Nat) : Int); omega), fun h1 => ?_, fun h1 => ?_⟩
      · have h1x : X.1 13 j = -9 := h1
        refine sx_Fi_someoneFights ?_
        refine ih hjn _ (w1 rfl (by omega)) (fun m hm => ?_)
        by_cases e : m = j
        · subst e; omega
        · exact hI m (by omega)
      · exact ⟨Or.inr rfl, rfl, Or.inl rfl⟩
  exact L 0 (Nat.zero_le _) 0 rfl (fun m hm => absurd hm (Nat.not_lt_zero m))
/-- who struck whom -/
def SBc (D : FD) (foe : Nat → Int) (X : XS) : Prop := ∀ f, f < dn D → X.1 16 f = ((bsN (fun x => if foe x = (f : Int) then 1 else 0) (dn D) : Nat) : Int)
theorem c_strike (w : WD) {D : FD} {X : XS} {F : FS} (hD : HB D (X.2 3) X) (hF : FC D F X) (hW : WF D F) : MS w M_Fi_strike [.inr (.inr (0, 12))] X (fun _ Y => CFr X Y ∧ FC D (F.1, F.2.1, stkA D F.2.1 F.2.2.1 (dn D), F.2.2.2) Y ∧ SBc D F.2.1 Y) := by
  have h9 := hD.n9
  refine mk_Fi_strike rfl ?_
  refine tx_Fi_strike 2 ?_
  have L2 : ∀ j, j ≤ dn D → ∀ (c : Int) (Y : XS) (y : Option V), c = (j : Int) → CFr X Y → FC D (F.1, F.2.1, stkA D F.2.1 F.2.2.1 j, F.2.2.2) Y → (∀ f, f < dn D → Y.1 16 f = ((bsN (fun x => if F.2.1 x = (f : Int) then 1 else 0) j : Nat) : Int)) → Go w K_Fi_strike 28 [some (.inr (.inr (0, 12))), some (.inl c), y] [] Y (fun _ Y => CFr X Y ∧ FC D (F.1, F.2.1, stkA D F.2.1 F.2.2.1 (dn D), F.2.2.2) Y ∧ SBc D F.2.1 Y) := by
    refine lp ?_
    intro j hj ih c Y y hc hM hFM hSB
    subst hc
    have hD' := hD.cf hM
    have hne := hD'.ne
    have hn : Y.1 (Y.2 3) 9 = (dn D : Int) := hD'.2.1
    refine sx_Fi_strike ?_
    refine ⟨hne, fun h => ?_, fun h => ?_⟩
    · have e : j = dn D := by omega
      subst e
      refine sx_Fi_strike ?_
      exact ⟨hM, hFM, hSB⟩
    · have hjn : j < dn D := by omega
      have hfoe : Y.1 13 j = F.2.1 j := (hFM.2 j hjn).1
      have H := c_has w Y (Y.2 3) (Y.1 13 j)
      rw [hn] at H
      refine ⟨(by omega), (by show _ < ((9 : Nat) : Int); omega), hne, trivial, _, H, fun z Y1 hq => ?_⟩
      obtain ⟨rfl, rfl⟩ := hq
      refine sx_Fi_strike ?_
      refine ⟨fun h1 => ?_, fun h1 => ?_⟩
      · have e9 : F.2.1 j = -9 := by
          rcases hW.2 j hjn with q | q
          · exact q
          · rw [if_pos (by omega)] at h1; cases h1
        refine sx_Fi_strike ?_
        refine ih hjn _ _ _ (w1 rfl (by omega)) hM ?_ (fun f hf => ?_)
        · rw [stkA_s, if_pos e9]
          exact hFM
        · rw [hSB f hf, bsN_s, if_neg (by rw [if_neg (by omega)]; decide)]
      · have hr : 0 ≤ Y1.1 13 j ∧ Y1.1 13 j < (dn D : Int) := Decidable.byContradiction (fun q => h1 (if_neg q))
        obtain ⟨f, hf⟩ : ∃ f : Nat, F.2.1 j = (f : Int) := ⟨(F.2.1 j).toNat, by omega⟩
        have hff : Y1.1 13 j = (f : Int) := hfoe.trans hf
        have A1 := c_blow w hD' hjn
        have hb : bsN (fun x => if F.2.1 x = (f : Int) then 1 else 0) j < 512 := bs512 (by omega)
        refine ⟨by show 0 ≤ Y1.1 13 j; omega, by show Y1.1 13 j < ((9 : Nat) : Int); omega, hne, trivial, _, A1, fun z Y2 hq => ?_⟩
        obtain ⟨rfl, rfl⟩ := hq
        refine sx_Fi_strike ?_
        refine ⟨by show 0 ≤ Y2.1 13 j; omega, by show Y2.1 13 j < ((9 : Nat) : Int); omega, by show 0 ≤ Y2.1 13 j; omega, by show Y2.1 13 j < ((9 : Nat) : Int); omega, (by omega), (by omega), by show 0 ≤ Y2.1 13 j; omega, by show Y2.1 13 j < ((9 : Nat) : Int); omega, ?_⟩
        refine ih hjn _ _ _ (w1 rfl (by omega)) (CFr.pt (CFr.pt hM (by omega) (by omega)) (by omega) (by omega)) ⟨?_, fun q hq => ?_⟩ (fun q hq => ?_)
        · simp [up_g]
          exact hFM.1
        · obtain ⟨q2, q3, q4⟩ := hFM.2 q hq
          have q5 := (hFM.2 f (by omega)).2.1
          rw [stkA_s, if_neg (by omega), hf]
          by_cases e : q = f
          · subst e
            simp [up_g, hff, q2, q4, u1, q5]
          · simp [up_g, hff, q2, q3, q4, u1, e]
        · have hq0 := hSB q hq
          rw [bsN_s]
          by_cases e : q = f
          · subst e
            rw [if_pos (by rw [if_pos hf])]
            simp only [up_g, hff, Int.toNat_natCast]
            simp [hq0, sh2 (show j < 31 by omega), bo1 hb (show j < 9 by omega)]
          · rw [if_neg (by rw [if_neg (by omega)]; decide)]
            simp [up_g, hff, e, hq0]
  have L1 : ∀ j, j ≤ dn D → ∀ (c : Int) (Y : XS), c = (j : Int) → CFr X Y → FC D F Y → (∀ f, f < j → Y.1 16 f = 0) → Go w K_Fi_strike 2 [some (.inr (.inr (0, 12))), some (.inl c), none] [] Y (fun _ Y => CFr X Y ∧ FC D (F.1, F.2.1, stkA D F.2.1 F.2.2.1 (dn D), F.2.2.2) Y ∧ SBc D F.2.1 Y) := by
    refine lp ?_
    intro j hj ih c Y hc hM hFM h0
    subst hc
    have hD' := hD.cf hM
    have hne := hD'.ne
    have hn : Y.1 (Y.2 3) 9 = (dn D : Int) := hD'.2.1
    refine sx_Fi_strike ?_
    refine ⟨hne, fun h => ?_, fun h => ?_⟩
    · have e : j = dn D := by omega
      subst e
      refine tx_Fi_strike 2 ?_
      exact L2 0 (Nat.zero_le _) 0 Y _ rfl hM hFM (fun f hf => h0 f hf)
    · have hjn : j < dn D := by omega
      refine ⟨(by omega), (by show _ < ((9 : Nat) : Int); omega), ?_⟩
      refine ih hjn _ _ (w1 rfl (by omega)) (hM.pt (by omega) (by omega)) ⟨?_, fun q hq => ?_⟩ (fun f hf => ?_)
      · simp [up_g]
        exact hFM.1
      · simp [up_g, hFM.2 q hq]
      · by_cases e : f = j
        · simp [up_g, e]
        · simp [up_g, e, h0 f (by omega)]
  exact L1 0 (Nat.zero_le _) 0 X rfl (CFr.rf X) hF (fun f hf => absurd hf (Nat.not_lt_zero f))
theorem c_least (w : WD) {D : FD} {X : XS} (hD : HB D (X.2 3) X) {m S : Nat} (hm : m < dn D) (hS : S < 512) : MS w M_Fi_leastInReach [.inr (.inr (0, 12)), .inl (m : Int), .inl (S : Int)] X (fun z Y => Y = X ∧ z = fn1 (fun x => decide (S.testBit x = true ∧ df D m x ≤ rch (dk D m))) 0 (dn D)) := by
  have h9 := hD.n9
  have hn : X.1 (X.2 3) 9 = (dn D : Int) := hD.2.1
  have hne := hD.ne
  refine mk_Fi_leastInReach rfl ?_
  refine tx_Fi_leastInReach 2 ?_
  have L : ∀ j, j ≤ dn D → ∀ (c : Int), c = (j : Int) → fn1 (fun x => decide (S.testBit x = true ∧ df D m x ≤ rch (dk D m))) 0 (dn D) = fn1 (fun x => decide (S.testBit x = true ∧ df D m x ≤ rch (dk D m))) j (dn D - j) → Go w K_Fi_leastInReach 2 [some (.inr (.inr (0, 12))), some (.inl (m : Int)), some (.inl (S : Int)), some (.inl c)] [] X (fun z Y => Y = X ∧ z = fn1 (fun x => decide (S.testBit x = true ∧ df D m x ≤ rch (dk D m))) 0 (dn D)) := by
    refine lp ?_
    intro j hj ih c hc hI
    subst hc
    refine sx_Fi_leastInReach ?_
    refine ⟨hne, fun h => ?_, fun h => ?_⟩
    · have e : j = dn D := by omega
      subst e
      refine sx_Fi_leastInReach ?_
      rw [Nat.sub_self] at hI
      exact ⟨trivial, rfl, hI.symm⟩
    · have hjn : j < dn D := by omega
      rw [show dn D - j = (dn D - (j + 1)) + 1 by omega, fn1_s] at hI
      have NX : ¬ (S.testBit j = true ∧ df D m j ≤ rch (dk D m)) → Go w K_Fi_leastInReach 43 [some (.inr (.inr (0, 12))), some (.inl (m : Int)), some (.inl (S : Int)), some (.inl (j : Int))] [] X (fun z Y => Y = X ∧ z = fn1 (fun x => decide (S.testBit x = true ∧ df D m x ≤ rch (dk D m))) 0 (dn D)) := by
        intro hno
        rw [if_neg (by simpa using hno)] at hI
        refine sx_Fi_leastInReach ?_
        exact ih hjn _ (w1 rfl (by omega)) hI
      refine ⟨trivial, _, c_isIn w X hS (show j < 9 by omega), fun z Y hq => ?_⟩
      obtain ⟨rfl, rfl⟩ := hq
      refine sx_Fi_leastInReach ?_
      refine ⟨fun h1 => ?_, fun h1 => ?_⟩
      · exact NX (fun q => by rw [if_pos q.1] at h1; cases h1)
      · have hb : S.testBit j = true := Decidable.byContradiction (fun q => h1 (if_neg q))
        refine ⟨hne, trivial, _, c_between w hD hm hjn, fun z Y1 hq => ?_⟩
        obtain ⟨rfl, rfl⟩ := hq
        refine sx_Fi_leastInReach ?_
        refine ⟨hne, trivial, _, c_reach w hD hm, fun z Y2 hq => ?_⟩
        obtain ⟨rfl, rfl⟩ := hq
        refine sx_Fi_leastInReach ?_
        refine ⟨fun h2 => ?_, fun h2 => ?_⟩
        · exact NX (fun q => by omega)
        · rw [if_pos (by simpa using ⟨hb, h2⟩)] at hI
          exact ⟨trivial, rfl, hI.symm⟩
  exact L 0 (Nat.zero_le _) 0 rfl rfl
theorem fn1_congr {p q : Nat → Bool} : ∀ {k j : Nat}, (∀ x, j ≤ x → x < j + k → p x = q x) → fn1 p j k = fn1 q j k
  | 0, _, _ => rfl
  | k + 1, j, h => by
    rw [fn1_s, fn1_s, h j (Nat.le_refl _) (by omega), fn1_congr (fun x h1 h2 => h x (by omega) (by omega))]
theorem c_turnOn (w : WD) {D : FD} {X : XS} {F : FS} {foe0 : Nat → Int} (hD : HB D (X.2 3) X) (hF : FC D F X) (hW : WF D F) (hS : SBc D foe0 X) : MS w M_Fi_turnOnStrikers [.inr (.inr (0, 12))] X (fun _ Y => CFr X Y ∧ FC D (F.1, fTrn D F.1 foe0 F.2.1, F.2.2.1, F.2.2.2) Y) := by
  have h9 := hD.n9
  refine mk_Fi_turnOnStrikers rfl ?_
  refine tx_Fi_turnOnStrikers 2 ?_
  have L : ∀ j, j ≤ dn D → ∀ (c : Int) (Y : XS), c = (j : Int) → CFr X Y → FC D (F.1, fun q => if q < j then fTrn D F.1 foe0 F.2.1 q else F.2.1 q, F.2.2.1, F.2.2.2) Y → Y.1 16 = X.1 16 → Go w K_Fi_turnOnStrikers 2 [some (.inr (.inr (0, 12))), some (.inl c)] [] Y (fun _ Y => CFr X Y ∧ FC D (F.1, fTrn D F.1 foe0 F.2.1, F.2.2.1, F.2.2.2) Y) := by
    refine lp ?_
    intro j hj ih c Y hc hM hFM h16
    subst hc
    have hD' := hD.cf hM
    have hne := hD'.ne
    have hn : Y.1 (Y.2 3) 9 = (dn D : Int) := hD'.2.1
    refine sx_Fi_turnOnStrikers ?_
    refine ⟨hne, fun h => ?_, fun h => ?_⟩
    · have e : j = dn D := by omega
      subst e
      refine sx_Fi_turnOnStrikers ?_
      refine ⟨hM, hFM.1, fun q hq => ?_⟩
      have := hFM.2 q hq
      dsimp only at this
      rw [if_pos hq] at this
      exact this
    · have hjn : j < dn D := by omega
      have A := c_isFree w h9 hFM hjn
      simp only [Nat.lt_irrefl, if_false] at A
      refine ⟨trivial, _, A, fun z Y1 hq => ?_⟩
      obtain ⟨rfl, rfl⟩ := hq
      refine sx_Fi_turnOnStrikers ?_
      refine ⟨fun h1 => ?_, fun h1 => ?_⟩
      · have hno : ¬ (F.1 j = 1 ∧ F.2.1 j = -9) := fun q => by rw [if_pos q] at h1; cases h1
        refine sx_Fi_turnOnStrikers ?_
        refine ih hjn _ _ (w1 rfl (by omega)) hM ⟨hFM.1, fun q hq => ?_⟩ h16
        have := hFM.2 q hq
        dsimp only at this ⊢
        by_cases e : q = j
        · subst e
          rw [if_neg (Nat.lt_irrefl q)] at this
          rw [if_pos (Nat.lt_succ_self q)]
          unfold fTrn
          rw [if_neg hno]
          exact this
        · have e4 : (q < j + 1) = (q < j) := by apply propext; omega
          simp only [e4]
          exact this
      · have hyes : F.1 j = 1 ∧ F.2.1 j = -9 := Decidable.byContradiction (fun q => h1 (if_neg q))
        have hs := hS j hjn
        rw [← h16] at hs
        have hand : ia (Y1.1 16 j) (Y1.1 12 6) = ((bsN (fun x => if foe0 x = (j : Int) then 1 else 0) (dn D) &&& bsN F.1 (dn D) : Nat) : Int) := by rw [hs, hFM.1]; exact an1 (bs512 h9)
        have B := c_least w hD' hjn (S := bsN (fun x => if foe0 x = (j : Int) then 1 else 0) (dn D) &&& bsN F.1 (dn D)) (Nat.lt_of_le_of_lt Nat.and_le_left (bs512 h9))
        rw [← hand] at B
        have hfn : fn1 (fun x => decide ((bsN (fun x => if foe0 x = (j : Int) then 1 else 0) (dn D) &&& bsN F.1 (dn D)).testBit x = true ∧ df D j x ≤ rch (dk D j))) 0 (dn D) = trn D F.1 foe0 j := by
          unfold trn
          refine fn1_congr (fun x _ hx => ?_)
          rw [Nat.testBit_and, bsN_bit, bsN_bit, decide_eq_decide]
          simp only [Bool.and_eq_true, decide_eq_true_eq]
          have : (if foe0 x = (j : Int) then (1 : Int) else 0) = 1 ↔ foe0 x = (j : Int) := by
            split <;> simp_all
          rw [this]
          constructor
          · intro q; exact ⟨q.1.1.2, q.1.2.2, q.2⟩
          · intro q; exact ⟨⟨⟨by omega, q.1⟩, by omega, q.2.1⟩, q.2.2⟩
        rw [hfn] at B
        refine ⟨(by omega), (by show _ < ((9 : Nat) : Int); omega), trivial, _, B, fun z Y2 hq => ?_⟩
        obtain ⟨rfl, rfl⟩ := hq
        refine sx_Fi_turnOnStrikers ?_
        refine ⟨(by omega), (by show _ < ((9 : Nat) : Int); omega), ?_⟩
        refine ih hjn _ _ (w1 rfl (by omega)) (hM.pt (by omega) (by omega)) ⟨?_, fun q hq => ?_⟩ ?_
        · simp [up_g]
          exact hFM.1
        · have := hFM.2 q hq
          dsimp only at this ⊢
          by_cases e : q = j
          · subst e
            rw [if_pos (Nat.lt_succ_self q)]
            unfold fTrn
            rw [if_pos hyes]
            simp [up_g, this]
          · have e4 : (q < j + 1) = (q < j) := by apply propext; omega
            simp only [e4]
            simp [up_g, e, this]
        · rw [← h16]
          funext q
          simp [up_g]
  refine L 0 (Nat.zero_le _) 0 X rfl (CFr.rf X) ⟨hF.1, fun q hq => ?_⟩ rfl
  simp only [Nat.not_lt_zero, if_false]
  exact hF.2 q hq
theorem c_fall (w : WD) {D : FD} {X : XS} {F : FS} {mn : Int} (hD : HB D (X.2 3) X) (hF : FC D F X) (hW : WF D F) (hmn : mn ≠ -9) : MS w M_Fi_fall [.inr (.inr (0, 12)), .inl mn] X (fun _ Y => CFr X Y ∧ FC D (fUp F.1 F.2.2.1, fFoe2 (fUp F.1 F.2.2.1) (fFoe F.1 F.2.2.1 F.2.1), F.2.2.1, fFell F.1 F.2.2.1 F.2.2.2 mn) Y ∧ Y.1 16 = X.1 16) := by
  have h9 := hD.n9
  refine mk_Fi_fall rfl ?_
  refine tx_Fi_fall 2 ?_
  have L2 : ∀ j, j ≤ dn D → ∀ (c : Int) (Y : XS), c = (j : Int) → CFr X Y → FC D (fUp F.1 F.2.2.1, fun q => if q < j then fFoe2 (fUp F.1 F.2.2.1) (fFoe F.1 F.2.2.1 F.2.1) q else fFoe F.1 F.2.2.1 F.2.1 q, F.2.2.1, fFell F.1 F.2.2.1 F.2.2.2 mn) Y → Y.1 16 = X.1 16 → Go w K_Fi_fall 70 [some (.inr (.inr (0, 12))), some (.inl mn), some (.inl c)] [] Y (fun _ Y => CFr X Y ∧ FC D (fUp F.1 F.2.2.1, fFoe2 (fUp F.1 F.2.2.1) (fFoe F.1 F.2.2.1 F.2.1), F.2.2.1, fFell F.1 F.2.2.1 F.2.2.2 mn) Y ∧ Y.1 16 = X.1 16) := by
    refine lp ?_
    intro j hj ih c Y hc hM hFM h16
    subst hc
    have hD' := hD.cf hM
    have hne := hD'.ne
    have hn : Y.1 (Y.2 3) 9 = (dn D : Int) := hD'.2.1
    refine sx_Fi_fall ?_
    refine ⟨hne, fun h => ?_, fun h => ?_⟩
    · have e : j = dn D := by omega
      subst e
      refine sx_Fi_fall ?_
      refine ⟨hM, ⟨hFM.1, fun q hq => ?_⟩, h16⟩
      have := hFM.2 q hq
      dsimp only at this
      rw [if_pos hq] at this
      exact this
    · have hjn : j < dn D := by omega
      have hfoe : Y.1 13 j = fFoe F.1 F.2.2.1 F.2.1 j := by
        have := (hFM.2 j hjn).1
        dsimp only at this
        rw [if_neg (Nat.lt_irrefl j)] at this
        exact this
      have hFR := fFoe_fr (u := F.1) (a := F.2.2.1) hW.2 j hjn
      have SAME : fFoe2 (fUp F.1 F.2.2.1) (fFoe F.1 F.2.2.1 F.2.1) j = fFoe F.1 F.2.2.1 F.2.1 j → Go w K_Fi_fall 121 [some (.inr (.inr (0, 12))), some (.inl mn), some (.inl (j : Int))] [] Y (fun _ Y => CFr X Y ∧ FC D (fUp F.1 F.2.2.1, fFoe2 (fUp F.1 F.2.2.1) (fFoe F.1 F.2.2.1 F.2.1), F.2.2.1, fFell F.1 F.2.2.1 F.2.2.2 mn) Y ∧ Y.1 16 = X.1 16) := by
        intro hsm
        refine sx_Fi_fall ?_
        refine ih hjn _ _ (w1 rfl (by omega)) hM ⟨hFM.1, fun q hq => ?_⟩ h16
        have := hFM.2 q hq
        dsimp only at this ⊢
        by_cases e : q = j
        · subst e
          rw [if_neg (Nat.lt_irrefl q)] at this
          rw [if_pos (Nat.lt_succ_self q), hsm]
          exact this
        · have e4 : (q < j + 1) = (q < j) := by apply propext; omega
          simp only [e4]
          exact this
      have H := c_has w Y (Y.2 3) (Y.1 13 j)
      rw [hn] at H
      refine ⟨hne, (by omega), (by show _ < ((9 : Nat) : Int); omega), trivial, _, H, fun z Y1 hq => ?_⟩
      obtain ⟨rfl, rfl⟩ := hq
      refine sx_Fi_fall ?_
      refine ⟨fun h1 => ?_, fun h1 => ?_⟩
      · have e9 : Y1.1 13 j = -9 := by
          rcases hFR with q | q
          · omega
          · rw [if_pos (by omega)] at h1; cases h1
        exact SAME (by unfold fFoe2; rw [if_neg (fun q => q.1 (by omega))])
      · have hr : 0 ≤ Y1.1 13 j ∧ Y1.1 13 j < (dn D : Int) := Decidable.byContradiction (fun q => h1 (if_neg q))
        have A := c_isIn w Y1 (bs512 (u := fUp F.1 F.2.2.1) h9) (show (Y1.1 13 j).toNat < 9 by omega)
        rw [Int.toNat_of_nonneg hr.1, ← hFM.1, bsN_bit] at A
        refine ⟨(by omega), (by show _ < ((9 : Nat) : Int); omega), trivial, _, A, fun z Y2 hq => ?_⟩
        obtain ⟨rfl, rfl⟩ := hq
        refine sx_Fi_fall ?_
        refine ⟨fun h2 => ?_, fun h2 => ?_⟩
        · have hu : fUp F.1 F.2.2.1 (Y2.1 13 j).toNat = 1 := Decidable.byContradiction (fun q => h2 (if_neg (by simp [q])))
          exact SAME (by unfold fFoe2; rw [if_neg (fun q => q.2 (by rw [← hfoe]; exact hu))])
        · have hu : fUp F.1 F.2.2.1 (Y2.1 13 j).toNat ≠ 1 := fun q => by rw [if_pos (by simp [q]; omega)] at h2; cases h2
          have hno : fFoe2 (fUp F.1 F.2.2.1) (fFoe F.1 F.2.2.1 F.2.1) j = -9 := by unfold fFoe2; rw [if_pos ⟨by omega, by rw [← hfoe]; exact hu⟩]
          refine ⟨(by omega), (by show _ < ((9 : Nat) : Int); omega), ?_⟩
          refine ih hjn _ _ (w1 rfl (by omega)) (hM.pt (by omega) (by omega)) ⟨?_, fun q hq => ?_⟩ ?_
          · simp [up_g]
            exact hFM.1
          · have := hFM.2 q hq
            dsimp only at this ⊢
            by_cases e : q = j
            · subst e
              rw [if_pos (Nat.lt_succ_self q), hno]
              simp [up_g, this]
            · have e4 : (q < j + 1) = (q < j) := by apply propext; omega
              simp only [e4]
              simp [up_g, e, this]
          · rw [← h16]
            funext q
            simp [up_g]
  have L1 : ∀ j, j ≤ dn D → ∀ (c : Int) (Y : XS), c = (j : Int) → CFr X Y → FC D (fun q => if q < j then fUp F.1 F.2.2.1 q else F.1 q, fun q => if q < j then fFoe F.1 F.2.2.1 F.2.1 q else F.2.1 q, F.2.2.1, fun q => if q < j then fFell F.1 F.2.2.1 F.2.2.2 mn q else F.2.2.2 q) Y → Y.1 16 = X.1 16 → Go w K_Fi_fall 2 [some (.inr (.inr (0, 12))), some (.inl mn), some (.inl c)] [] Y (fun _ Y => CFr X Y ∧ FC D (fUp F.1 F.2.2.1, fFoe2 (fUp F.1 F.2.2.1) (fFoe F.1 F.2.2.1 F.2.1), F.2.2.1, fFell F.1 F.2.2.1 F.2.2.2 mn) Y ∧ Y.1 16 = X.1 16) := by
    refine lp ?_
    intro j hj ih c Y hc hM hFM h16
    subst hc
    have hD' := hD.cf hM
    have hne := hD'.ne
    have hn : Y.1 (Y.2 3) 9 = (dn D : Int) := hD'.2.1
    refine sx_Fi_fall ?_
    refine ⟨hne, fun h => ?_, fun h => ?_⟩
    · have e : j = dn D := by omega
      subst e
      refine tx_Fi_fall 2 ?_
      refine L2 0 (Nat.zero_le _) 0 Y rfl hM ⟨?_, fun q hq => ?_⟩ h16
      · rw [hFM.1]
        congr 1
        exact bsN_eq (fun q hq => by dsimp only; rw [if_pos hq])
      · have := hFM.2 q hq
        dsimp only at this ⊢
        rw [if_pos hq, if_pos hq] at this
        rw [if_neg (Nat.not_lt_zero q)]
        exact this
    · have hjn : j < dn D := by omega
      have hq := hFM.2 j hjn
      dsimp only at hq
      rw [if_neg (Nat.lt_irrefl j), if_neg (Nat.lt_irrefl j)] at hq
      obtain ⟨q2, q3, q4⟩ := hq
      have hu := hW.1 j hjn
      have NO : ¬ dies F.1 F.2.2.1 j → Go w K_Fi_fall 62 [some (.inr (.inr (0, 12))), some (.inl mn), some (.inl (j : Int))] [] Y (fun _ Y => CFr X Y ∧ FC D (fUp F.1 F.2.2.1, fFoe2 (fUp F.1 F.2.2.1) (fFoe F.1 F.2.2.1 F.2.1), F.2.2.1, fFell F.1 F.2.2.1 F.2.2.2 mn) Y ∧ Y.1 16 = X.1 16) := by
        intro hd
        refine sx_Fi_fall ?_
        refine ih hjn _ _ (w1 rfl (by omega)) hM ⟨?_, fun q hq => ?_⟩ h16
        · rw [hFM.1]
          congr 1
          refine bsN_eq (fun q hq => ?_)
          dsimp only
          by_cases e : q = j
          · subst e
            rw [if_neg (Nat.lt_irrefl q), if_pos (Nat.lt_succ_self q)]
            unfold fUp
            rw [if_neg hd]
          · have e4 : (q < j + 1) = (q < j) := by apply propext; omega
            simp only [e4]
        · have := hFM.2 q hq
          dsimp only at this ⊢
          by_cases e : q = j
          · subst e
            simp [this, fFoe, fFell, hd]
          · have e2 : (q < j + 1) = (q < j) := by apply propext; omega
            simp only [e2]
            exact this
      have A := c_isIn w Y (bs512 (u := fun q => if q < j then fUp F.1 F.2.2.1 q else F.1 q) h9) (show j < 9 by omega)
      rw [← hFM.1, bsN_bit] at A
      simp only [Nat.lt_irrefl, if_false] at A
      refine ⟨trivial, _, A, fun z Y1 hq => ?_⟩
      obtain ⟨rfl, rfl⟩ := hq
      refine sx_Fi_fall ?_
      refine ⟨fun h1 => ?_, fun h1 => ⟨(by omega), (by show _ < ((9 : Nat) : Int); omega), fun h2 => ?_, fun h2 => ?_⟩⟩
      · exact NO (fun q => by rw [if_pos (by simp [hjn, q.1])] at h1; cases h1)
      · have h2x : 0 < Y1.1 14 j := h2
        exact NO (fun q => by have := q.2; omega)
      · have h2x : Y1.1 14 j ≤ 0 := h2
        have hu1 : F.1 j = 1 := Decidable.byContradiction (fun q => h1 (if_neg (by simp [q])))
        have hd : dies F.1 F.2.2.1 j := ⟨hu1, by omega⟩
        have hS5 : bsN (fun q => if q < j then fUp F.1 F.2.2.1 q else F.1 q) (dn D) < 512 := bs512 h9
        refine ⟨(by omega), (by omega), (by omega), (by show _ < ((9 : Nat) : Int); omega), (by omega), (by show _ < ((9 : Nat) : Int); omega), ?_⟩
        refine ih hjn _ _ (w1 rfl (by omega)) (CFr.pt (CFr.pt (CFr.pt hM (by omega) (by omega)) (by omega) (by omega)) (by omega) (by omega)) ⟨?_, fun q hq => ?_⟩ ?_
        · have e1 := hFM.1
          dsimp only at e1
          simp only [up_g]
          simp [e1, sh2 (show j < 31 by omega), bx1 hS5 (show j < 9 by omega)]
          rw [bs_clr h9 hjn]
          refine congrArg (fun n : Nat => (n : Int)) (bsN_eq (fun q hq => ?_))
          unfold u1
          by_cases e : q = j
          · subst e
            rw [if_pos rfl, if_pos (Nat.lt_succ_self q)]
            unfold fUp
            rw [if_pos hd]
          · have e4 : (q < j + 1) = (q < j) := by apply propext; omega
            simp only [e4]
            rw [if_neg e]
        · have := hFM.2 q hq
          dsimp only at this ⊢
          by_cases e : q = j
          · subst e
            have e5 : fFell F.1 F.2.2.1 F.2.2.2 mn q = mn := if_pos hd
            have e6 : fFoe F.1 F.2.2.1 F.2.1 q = -9 := if_pos hd
            rw [if_pos (Nat.lt_succ_self q), if_pos (Nat.lt_succ_self q), e5, e6]
            simp [up_g, this, fl, hmn]
          · have e2 : (q < j + 1) = (q < j) := by apply propext; omega
            simp only [e2]
            simp [up_g, e, this]
        · rw [← h16]
          funext q
          simp [up_g]
  refine L1 0 (Nat.zero_le _) 0 X rfl (CFr.rf X) ⟨?_, fun q hq => ?_⟩ rfl
  · simp only [Nat.not_lt_zero, if_false]
    exact hF.1
  · simp only [Nat.not_lt_zero, if_false]
    exact hF.2 q hq
/-! nobody fights: a minute changes nothing -/
def AL (D : FD) (F : FS) : Prop := ∀ m, m < dn D → F.1 m = 1 → 0 < F.2.2.1 m
theorem bgn_al {D : FD} (h : DR D) (ab : Int) : AL D (bgn D ab) := fun m hm _ => by
  have := (h.2 m hm).2.2
  show 0 < da D m
  omega
theorem mst2_al (D : FD) (mn : Int) (F : FS) : AL D (mst2 D mn F) := by
  intro m hm hu
  show 0 < stkA D F.2.1 F.2.2.1 (dn D) m
  have hu : fUp F.1 (stkA D F.2.1 F.2.2.1 (dn D)) m = 1 := hu
  unfold fUp at hu
  split at hu
  · cases hu
  · rename_i hd
    exact Int.not_le.mp (fun q => hd ⟨hu, q⟩)
theorem run_al {D : FD} (h : DR D) (law : Int) (S : List (Int × Int)) (ab : Int) : ∀ k, AL D (run D law S ab k)
  | 0 => bgn_al h ab
  | k + 1 => mst2_al D _ _
theorem stkA_no {D : FD} {foe a : Nat → Int} (h : ∀ m, m < dn D → foe m = -9) : ∀ k, k ≤ dn D → stkA D foe a k = a
  | 0, _ => rfl
  | k + 1, hk => by rw [stkA_s, if_pos (h k (by omega)), stkA_no h k (by omega)]
theorem fn1_no {p : Nat → Bool} : ∀ {k j : Nat}, (∀ x, j ≤ x → x < j + k → p x = false) → fn1 p j k = -9
  | 0, _, _ => rfl
  | k + 1, j, h => by
    rw [fn1_s, if_neg (by rw [h j (Nat.le_refl _) (by omega)]; decide), fn1_no (fun x h1 h2 => h x (by omega) (by omega))]
theorem qt_m {D : FD} {F : FS} {mn : Int} (h : ∀ m, m < dn D → F.2.1 m = -9) (hA : AL D F) {m : Nat} (hm : m < dn D) : (mst2 D mn F).1 m = F.1 m ∧ (mst2 D mn F).2.1 m = F.2.1 m ∧ (mst2 D mn F).2.2.1 m = F.2.2.1 m ∧ (mst2 D mn F).2.2.2 m = F.2.2.2 m := by
  have ha : stkA D F.2.1 F.2.2.1 (dn D) = F.2.2.1 := stkA_no h _ (Nat.le_refl _)
  unfold mst2
  rw [ha]
  have hd : ∀ q, q < dn D → ¬ dies F.1 F.2.2.1 q := fun q hq z => by have := hA q hq z.1; have := z.2; omega
  have hdm := hd m hm
  have hfm := h m hm
  have hu : fUp F.1 F.2.2.1 m = F.1 m := if_neg hdm
  have hf : fFoe F.1 F.2.2.1 F.2.1 m = F.2.1 m := if_neg hdm
  have hf2 : fFoe2 (fUp F.1 F.2.2.1) (fFoe F.1 F.2.2.1 F.2.1) m = -9 := by
    unfold fFoe2
    rw [if_neg (fun q => q.1 (hf.trans hfm)), hf, hfm]
  refine ⟨hu, ?_, rfl, if_neg hdm⟩
  show fTrn D _ _ _ m = _
  unfold fTrn
  rw [hf2, hfm]
  split
  · unfold trn
    refine fn1_no (fun x _ hx => ?_)
    rw [decide_eq_false_iff_not]
    intro q
    have := h x (by omega)
    omega
  · rfl
theorem FC.quiet {D : FD} {F : FS} {X : XS} {mn : Int} (hF : FC D F X) (h : ∀ m, m < dn D → F.2.1 m = -9) (hA : AL D F) : FC D (mst2 D mn F) X := by
  refine ⟨?_, fun m hm => ?_⟩
  · rw [hF.1]
    congr 1
    exact bsN_eq (fun q hq => by rw [(qt_m (mn := mn) h hA hq).1])
  · obtain ⟨-, q2, q3, q4⟩ := qt_m (mn := mn) h hA hm
    rw [q2, q3, q4]
    exact hF.2 m hm
/-- only the fight's rows, and whose men they are -/
def CR (b : Nat) (X Y : XS) : Prop := (∀ i, i < 12 ∨ 16 < i → Y.1 i = X.1 i) ∧ (∀ j, j ≠ 3 → Y.2 j = X.2 j) ∧ Y.2 3 = b
theorem c_run (w : WD) {D : FD} {X : XS} {S : List (Int × Int)} {law ab : Int} {b t : Nat} (hD : HB D b X) (hl2 : law = 0 ∨ law = 1 ∨ law = 2) (hS : SC D t X S) {last : Nat} (hlast : last < 30) : MS w M_Fi_run [.inr (.inr (0, 12)), .inr (.inr (1, b)), .inr (.inr (4, t)), .inl law, .inl (last : Int), .inl ab] X (fun z Y => CR b X Y ∧ FC D (run D law S ab (last + 1)) Y ∧ z = ((bsN (run D law S ab (last + 1)).1 (dn D) : Nat) : Int)) := by
  have h9 := hD.n9
  have hDR := hD.2.2.1
  refine mk_Fi_run rfl ?_
  refine tx_Fi_run 9 ?_
  have hX0 : CR b X (up X.1 12 5 law, upr X.2 3 b) := ⟨fun i hi => up_ne (by omega), fun j hj => by show upr X.2 3 b j = _; unfold upr; rw [if_neg hj], by show upr X.2 3 b 3 = _; unfold upr; rw [if_pos rfl]⟩
  have hD0 : HB D ((up X.1 12 5 law, upr X.2 3 b).2 3) (up X.1 12 5 law, upr X.2 3 b) := by rw [hX0.2.2]; exact hD.fr hX0.1
  refine ⟨trivial, _, c_begin w hD0, fun _ Y hq => ?_⟩
  obtain ⟨hM0, hF0⟩ := hq
  have hlaw0 : Y.1 12 5 = law := by rw [hM0.2.2]; simp [up_g]
  have hCR : ∀ Y Z : XS, CR b X Y → CFr Y Z → CR b X Z := fun Y Z h g => ⟨fun i hi => (g.2.1 i hi).trans (h.1 i hi), fun j hj => by rw [g.1]; exact h.2.1 j hj, by rw [g.1]; exact h.2.2⟩
  refine tx_Fi_run 2 ?_
  have L : ∀ k, k ≤ last + 1 → ∀ (c : Int) (Y : XS), c = (k : Int) → CR b X Y → Y.1 12 5 = law → FC D (run D law S ab k) Y → Go w K_Fi_run 19 [some (.inr (.inr (0, 12))), some (.inr (.inr (1, b))), some (.inr (.inr (4, t))), some (.inl law), some (.inl (last : Int)), some (.inl ab), some (.inl c)] [] Y (fun z Y => CR b X Y ∧ FC D (run D law S ab (last + 1)) Y ∧ z = ((bsN (run D law S ab (last + 1)).1 (dn D) : Nat) : Int)) := by
    refine lp ?_
    intro k hk ih c Y hc hM hlw hF
    subst hc
    have hWk := run_wf D law S ab k
    have hAk := run_al hDR law S ab k
    refine sx_Fi_run ?_
    refine ⟨fun h => ?_, fun h => ?_⟩
    · have e : k = last + 1 := by omega
      subst e
      refine sx_Fi_run ?_
      exact ⟨trivial, hM, hF, hF.1⟩
    · have hkl : k < last + 1 := by omega
      have hDY : HB D (Y.2 3) Y := by rw [hM.2.2]; exact hD.fr hM.1
      have NX : ∀ Y' : XS, CR b X Y' → Y'.1 12 5 = law → FC D (mst2 D (k : Int) (mst1 D law S (k : Int) (run D law S ab k))) Y' → Go w K_Fi_run 54 [some (.inr (.inr (0, 12))), some (.inr (.inr (1, b))), some (.inr (.inr (4, t))), some (.inl law), some (.inl (last : Int)), some (.inl ab), some (.inl (k : Int))] [] Y' (fun z Y => CR b X Y ∧ FC D (run D law S ab (last + 1)) Y ∧ z = ((bsN (run D law S ab (last + 1)).1 (dn D) : Nat) : Int)) := by
        intro Y' h1 h2 h3
        refine sx_Fi_run ?_
        exact ih hkl _ _ (w1 rfl (by omega)) h1 h2 h3
      refine ⟨trivial, _, c_stones w (mn := (k : Int)) hDY hF hWk hlw hl2 (hS.fr hM.1), fun _ Y1 hq => ?_⟩
      obtain ⟨g1, g2⟩ := hq
      have hM1 := hCR _ _ hM g1
      have hD1 := hDY.cf g1
      have hl1 : Y1.1 12 5 = law := g1.2.2.trans hlw
      have hW1 : WF D (mst1 D law S (k : Int) (run D law S ab k)) := mst1_wf hWk
      have hA1 : AL D (mst1 D law S (k : Int) (run D law S ab k)) := hAk
      generalize mst1 D law S (k : Int) (run D law S ab k) = F at g2 hW1 hA1 NX
      refine sx_Fi_run ?_
      refine ⟨trivial, _, c_someone w hD1 g2, fun z Y2 hq => ?_⟩
      obtain ⟨rfl, hz⟩ := hq
      refine tx_Fi_run 3 ?_
      refine ⟨fun h1 => ?_, fun h1 => ?_⟩
      · have hno : ∀ m, m < dn D → F.2.1 m = -9 := by
          rcases hz with hz | hz
          · omega
          · exact hz.2
        exact NX Y2 hM1 hl1 (FC.quiet g2 hno hA1)
      · refine ⟨trivial, _, c_strike w hD1 g2 hW1, fun _ Y3 hq => ?_⟩
        obtain ⟨g3, g4, g5⟩ := hq
        have hD3 := hD1.cf g3
        refine sx_Fi_run ?_
        refine ⟨trivial, _, c_fall w (mn := (k : Int)) hD3 g4 ⟨hW1.1, hW1.2⟩ (by omega), fun _ Y4 hq => ?_⟩
        obtain ⟨g6, g7, g8⟩ := hq
        have hD4 := hD3.cf g6
        refine sx_Fi_run ?_
        refine ⟨trivial, _, c_turnOn w hD4 g7 ⟨fUp_u hW1.1, fFoe2_fr (fFoe_fr hW1.2)⟩ (foe0 := F.2.1) (fun f hf => by rw [g8]; exact g5 f hf), fun _ Y5 hq => ?_⟩
        obtain ⟨g9, g10⟩ := hq
        exact NX Y5 (hCR _ _ (hCR _ _ (hCR _ _ hM1 g3) g6) g9) (g9.2.2.trans (g6.2.2.trans (g3.2.2.trans hl1))) g10
  exact L 0 (Nat.zero_le _) 0 Y rfl (hCR _ _ hX0 hM0) hlaw0 hF0
