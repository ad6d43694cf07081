/-! ===== the class's fight ===== -/
theorem an_nat (a b : Nat) : nI a &&& nI b = nI (a &&& b) := by
  apply Int32.toBitVec_inj.1
  show BitVec.ofNat 32 a &&& BitVec.ofNat 32 b = BitVec.ofNat 32 (a &&& b)
  apply BitVec.eq_of_getLsbD_eq
  intro i hi
  simp [hi]
theorem an1 {a b : Nat} (ha : a < 512) : ia (a : Int) (b : Int) = ((a &&& b : Nat) : Int) := by
  unfold ia
  rw [oi_nat, oi_nat, an_nat]
  have : a &&& b ≤ a := Nat.and_le_left
  exact nI_toInt (by omega)
def HB (D : FD) (b : Nat) (X : XS) : Prop := (b = 27 ∨ b = 35) ∧ X.1 b 9 = (dn D : Int) ∧ DR D ∧ (∀ m, m < dn D → X.1 (b + 1) m = dk D m ∧ X.1 (b + 2) m = dd D m ∧ X.1 (b + 3) m = ds D m ∧ X.1 (b + 4) m = da D m) ∧ ∀ m o, m < dn D → o < dn D → X.1 (b + 6) (m * 9 + o) = df D m o
theorem HB.n9 {D : FD} {b : Nat} {X : XS} (h : HB D b X) : dn D ≤ 9 := h.2.2.1.1
/-- only the fight's rows have changed, the law in it not -/
def CFr (X Y : XS) : Prop := Y.2 = X.2 ∧ (∀ i, i < 12 ∨ 16 < i → Y.1 i = X.1 i) ∧ Y.1 12 5 = X.1 12 5
theorem CFr.rf (X : XS) : CFr X X := ⟨rfl, fun _ _ => rfl, rfl⟩
theorem CFr.tr {X Y Z : XS} (h : CFr X Y) (g : CFr Y Z) : CFr X Z := ⟨g.1.trans h.1, fun i hi => (g.2.1 i hi).trans (h.2.1 i hi), g.2.2.trans h.2.2⟩
theorem CFr.pt {X Y : XS} {i k : Nat} {z : Int} (h : CFr X Y) (hi : 12 ≤ i ∧ i ≤ 16) (hk : i ≠ 12 ∨ k ≠ 5) : CFr X (up Y.1 i k z, Y.2) := by
  refine ⟨h.1, fun j hj => (up_ne (by omega)).trans (h.2.1 j hj), ?_⟩
  show up Y.1 i k z 12 5 = _
  rw [up_g, if_neg (by omega)]
  exact h.2.2
theorem HB.fr {D : FD} {b : Nat} {X Y : XS} (h : HB D b X) (g : ∀ i, i < 12 ∨ 16 < i → Y.1 i = X.1 i) : HB D b Y := by
  obtain ⟨h1, h2, h3, h4, h5⟩ := h
  unfold HB
  rw [g b (by omega), g (b + 1) (by omega), g (b + 2) (by omega), g (b + 3) (by omega), g (b + 4) (by omega), g (b + 6) (by omega)]
  exact ⟨h1, h2, h3, h4, h5⟩
theorem HB.cf {D : FD} {X Y : XS} (h : HB D (X.2 3) X) (g : CFr X Y) : HB D (Y.2 3) Y := by rw [g.1]; exact h.fr g.2.1
theorem HB.ne {D : FD} {X : XS} (h : HB D (X.2 3) X) : X.2 3 ≠ 0 := by have := h.1; omega
def fl (z : Int) : Int := if z = -9 then 30 else z
def FC (D : FD) (F : FS) (X : XS) : Prop := X.1 12 6 = ((bsN F.1 (dn D) : Nat) : Int) ∧ ∀ m, m < dn D → X.1 13 m = F.2.1 m ∧ X.1 14 m = F.2.2.1 m ∧ X.1 15 m = fl (F.2.2.2 m)
theorem c_isIn (w : WD) (X : XS) {S k : Nat} (hS : S < 512) (hk : k < 9) : MS w M_Tf_isIn [.inl (S : Int), .inl (k : Int)] X (fun z Y => Y = X ∧ z = if S.testBit k = true then 1 else 0) := by
  have hb := bt1 hS hk
  refine mk_Tf_isIn rfl ?_
  refine sx_Tf_isIn ?_
  refine ⟨(by omega), (by omega), fun h => ?_, fun h => ?_⟩
  · have h : ia ((S : Int) / 2 ^ k) 1 ≠ 1 := h
    refine sx_Tf_isIn ?_
    exact ⟨Or.inl rfl, rfl, by rw [if_neg (fun q => h (by rw [hb, if_pos q]))]⟩
  · have h : ia ((S : Int) / 2 ^ k) 1 = 1 := h
    refine sx_Tf_isIn ?_
    exact ⟨Or.inr rfl, rfl, by rw [if_pos (Decidable.byContradiction (fun q => by rw [hb, if_neg q] at h; cases h))]⟩
theorem c_isBelow (w : WD) (X : XS) (v e : Int) : MS w M_Tf_isBelow [.inl v, .inl e] X (fun z Y => Y = X ∧ z = if 0 ≤ v ∧ v < e then 1 else 0) := by
  refine mk_Tf_isBelow rfl ?_
  refine sx_Tf_isBelow ?_
  refine ⟨fun h => ?_, fun h => ⟨fun h2 => ?_, fun h2 => ?_⟩⟩
  · refine sx_Tf_isBelow ?_
    exact ⟨Or.inl rfl, rfl, by rw [if_neg (by omega)]⟩
  · refine sx_Tf_isBelow ?_
    exact ⟨Or.inl rfl, rfl, by rw [if_neg (by omega)]⟩
  · refine sx_Tf_isBelow ?_
    exact ⟨Or.inr rfl, rfl, by rw [if_pos (by omega)]⟩
theorem c_has (w : WD) (X : XS) (b : Nat) (m : Int) : MS w M_Ho_has [.inr (.inr (1, b)), .inl m] X (fun z Y => Y = X ∧ z = if 0 ≤ m ∧ m < X.1 b 9 then 1 else 0) := by
  refine mk_Ho_has rfl ?_
  refine sx_Ho_has ?_
  refine ⟨trivial, _, c_isBelow w X _ _, fun z Y hq => ?_⟩
  obtain ⟨rfl, rfl⟩ := hq
  refine sx_Ho_has ?_
  exact ⟨zo_if _ _, rfl, rfl⟩
theorem c_between (w : WD) {D : FD} {b : Nat} {X : XS} (hD : HB D b X) {m o : Nat} (hm : m < dn D) (ho : o < dn D) : MS w M_Ho_between [.inr (.inr (1, b)), .inl (m : Int), .inl (o : Int)] X (fun z Y => Y = X ∧ z = df D m o) := by
  have h9 := hD.n9
  have e : wr (wr ((m : Int) * 9) + (o : Int)) = ((m * 9 + o : Nat) : Int) := by rw [wr_id (z := (m : Int) * 9) (by omega) (by omega), wr_id (by omega) (by omega)]; omega
  refine mk_Ho_between rfl ?_
  refine sx_Ho_between ?_
  refine ⟨by rw [e]; omega, by rw [e]; show _ < ((81 : Nat) : Int); omega, trivial, rfl, ?_⟩
  rw [e]
  exact hD.2.2.2.2 m o hm ho
theorem c_reach (w : WD) {D : FD} {b : Nat} {X : XS} (hD : HB D b X) {m : Nat} (hm : m < dn D) : MS w M_Ho_reachOf [.inr (.inr (1, b)), .inl (m : Int)] X (fun z Y => Y = X ∧ z = rch (dk D m)) := by
  have h9 := hD.n9
  have hk : X.1 (b + 1) m = dk D m := (hD.2.2.2.1 m hm).1
  refine mk_Ho_reachOf rfl ?_
  refine sx_Ho_reachOf ?_
  refine ⟨(by omega), (by show _ < ((9 : Nat) : Int); omega), fun h => ?_, fun h => ?_⟩
  · refine sx_Ho_reachOf ?_
    exact ⟨trivial, rfl, by unfold rch; rw [if_neg (fun q => h (hk.trans q))]⟩
  · refine sx_Ho_reachOf ?_
    exact ⟨trivial, rfl, by unfold rch; rw [if_pos (hk.symm.trans h)]⟩
theorem c_blow (w : WD) {D : FD} {b : Nat} {X : XS} (hD : HB D b X) {m : Nat} (hm : m < dn D) : MS w M_Ho_blowOf [.inr (.inr (1, b)), .inl (m : Int)] X (fun z Y => Y = X ∧ z = blw (dk D m) (ds D m)) := by
  have h9 := hD.n9
  have hk : X.1 (b + 1) m = dk D m := (hD.2.2.2.1 m hm).1
  have hs : X.1 (b + 3) m = ds D m := (hD.2.2.2.1 m hm).2.2.1
  have hr := (hD.2.2.1.2 m hm).2.1
  refine mk_Ho_blowOf rfl ?_
  refine sx_Ho_blowOf ?_
  refine ⟨(by omega), (by show _ < ((9 : Nat) : Int); omega), fun h => ?_, fun h => ?_⟩
  · have hk0 : dk D m ≠ 0 := fun q => h (hk.trans q)
    refine sx_Ho_blowOf ?_
    refine ⟨(by omega), (by show _ < ((9 : Nat) : Int); omega), by show 0 ≤ X.1 (b + 3) m; omega, by decide, (by omega), (by show _ < ((9 : Nat) : Int); omega), fun h => ?_, fun h => ?_⟩
    · refine sx_Ho_blowOf ?_
      exact ⟨trivial, rfl, by unfold blw; rw [if_neg hk0, if_neg (fun q => h (hk.trans q))]; show max 1 (X.1 (b + 3) m / 2) = _; rw [hs]⟩
    · refine sx_Ho_blowOf ?_
      exact ⟨trivial, rfl, by unfold blw; rw [if_neg hk0, if_pos (hk.symm.trans h)]; show wr (max 1 (X.1 (b + 3) m / 2) + 1) = _; rw [hs, wr_id (by omega) (by omega)]⟩
  · exact ⟨(by omega), (by show _ < ((9 : Nat) : Int); omega), trivial, rfl, by unfold blw; rw [if_pos (hk.symm.trans h)]; exact hs⟩
theorem c_isFree (w : WD) {D : FD} {X : XS} {F : FS} (h9 : dn D ≤ 9) (hF : FC D F X) {m : Nat} (hm : m < dn D) : MS w M_Fi_isFree [.inr (.inr (0, 12)), .inl (m : Int)] X (fun z Y => Y = X ∧ z = if F.1 m = 1 ∧ F.2.1 m = -9 then 1 else 0) := by
  have A := c_isIn w X (bs512 (u := F.1) h9) (show m < 9 by omega)
  rw [← hF.1, bsN_bit] at A
  have hf := (hF.2 m hm).1
  refine mk_Fi_isFree rfl ?_
  refine sx_Fi_isFree ?_
  refine ⟨trivial, _, A, fun z Y hq => ?_⟩
  obtain ⟨rfl, rfl⟩ := hq
  refine sx_Fi_isFree ?_
  refine ⟨fun h => ?_, fun h => ⟨(by omega), (by show _ < ((9 : Nat) : Int); omega), fun h2 => ?_, fun h2 => ?_⟩⟩
  · refine sx_Fi_isFree ?_
    exact ⟨Or.inl rfl, rfl, by rw [if_neg (fun q => by rw [if_pos (by simp [hm, q.1])] at h; cases h)]⟩
  · have h2 : Y.1 13 m ≠ -9 := h2
    refine sx_Fi_isFree ?_
    exact ⟨Or.inl rfl, rfl, by rw [if_neg (fun q => h2 (hf.trans q.2))]⟩
  · have h2 : Y.1 13 m = -9 := h2
    refine sx_Fi_isFree ?_
    exact ⟨Or.inr rfl, rfl, by rw [if_pos ⟨Decidable.byContradiction (fun q => h (by rw [if_neg (by simp [q])])), hf.symm.trans h2⟩]⟩
theorem c_begin (w : WD) {D : FD} {X : XS} {ab : Int} (hD : HB D (X.2 3) X) : MS w M_Fi_begin [.inr (.inr (0, 12)), .inl ab] X (fun _ Y => CFr X Y ∧ FC D (bgn D ab) Y) := by
  have h9 := hD.n9
  refine mk_Fi_begin rfl ?_
  refine tx_Fi_begin 5 ?_
  have L : ∀ j, j ≤ dn D → ∀ (c : Int) (Y : XS), c = (j : Int) → CFr X Y → Y.1 12 6 = ((bsN (bgn D ab).1 j : Nat) : Int) → (∀ m, m < j → Y.1 13 m = -9 ∧ Y.1 14 m = da D m ∧ Y.1 15 m = 30) → Go w K_Fi_begin 7 [some (.inr (.inr (0, 12))), some (.inl ab), some (.inl c)] [] Y (fun _ Y => CFr X Y ∧ FC D (bgn D ab) Y) := by
    refine lp ?_
    intro j hj ih c Y hc hM hS hI
    subst hc
    have hD' := hD.cf hM
    have hne := hD'.ne
    have hn : Y.1 (Y.2 3) 9 = (dn D : Int) := hD'.2.1
    refine sx_Fi_begin ?_
    refine ⟨hne, fun h => ?_, fun h => ?_⟩
    · have e : j = dn D := by omega
      subst e
      refine sx_Fi_begin ?_
      exact ⟨hM, hS, fun m hm => hI m hm⟩
    · have hjn : j < dn D := by omega
      have hsh : Y.1 (Y.2 3 + 4) j = da D j := (hD'.2.2.2.1 j hjn).2.2.2
      have hb2 := hD'.1
      have hsu : up Y.1 13 j (-9) (Y.2 3 + 4) j = da D j := by rw [up_g, if_neg (by omega)]; exact hsh
      have hbs : bsN (bgn D ab).1 j < 512 := bs512 (by omega)
      refine ⟨(by omega), (by show _ < ((9 : Nat) : Int); omega), hne, (by omega), (by show _ < ((9 : Nat) : Int); omega), (by omega), (by show _ < ((9 : Nat) : Int); omega), (by omega), (by show _ < ((9 : Nat) : Int); omega), fun h1 => ?_, fun h1 => ?_⟩
      · have h1 : (j : Int) = ab := h1
        refine sx_Fi_begin ?_
        refine ih hjn _ _ (w1 rfl (by omega)) (CFr.pt (CFr.pt (CFr.pt hM (by omega) (by omega)) (by omega) (by omega)) (by omega) (by omega)) ?_ (fun m hm => ?_)
        · simp [up_g, hS]
          rw [bsN_s, if_neg (by show ¬ (if _ then _ else _) = _; rw [if_pos h1]; decide)]
        · by_cases e : m = j
          · subst e
            simp [up_g, hsh]
            omega
          · have := hI m (by omega)
            simp [up_g, e, this]
      · have h1 : (j : Int) ≠ ab := h1
        refine ⟨(by omega), (by omega), ?_⟩
        refine ih hjn _ _ (w1 rfl (by omega)) (CFr.pt (CFr.pt (CFr.pt (CFr.pt hM (by omega) (by omega)) (by omega) (by omega)) (by omega) (by omega)) (by omega) (by omega)) ?_ (fun m hm => ?_)
        · simp only [up_g]
          simp [hS, sh2 (show j < 31 by omega), bo1 hbs (show j < 9 by omega)]
          rw [bsN_s, if_pos (by show (if _ then _ else _) = _; rw [if_neg h1])]
        · by_cases e : m = j
          · subst e
            simp [up_g, hsh]
            omega
          · have := hI m (by omega)
            simp [up_g, e, this]
  refine L 0 (Nat.zero_le _) 0 _ rfl ((CFr.rf X).pt (by omega) (by omega)) ?_ (fun m hm => absurd hm (Nat.not_lt_zero m))
  simp [up_g, bsN]
